section
/-! own kit: functions for decompiled methods, and rows that join a call, an entry, a return into one step each -/
def itr {α : Type} (z : α) (g : α → α) : Nat → α
  | 0 => z
  | n + 1 => g (itr z g n)
theorem itr_0 {α : Type} (z : α) (g : α → α) : itr z g 0 = z := rfl
theorem itr_s {α : Type} (z : α) (g : α → α) (n : Nat) : itr z g (n + 1) = g (itr z g n) := rfl
def gd {α : Type} (i : Int32) (n : Nat) (k : Option α) : Option α := if i < 0 ∨ n ≤ i.toNatClampNeg then none else k
theorem gd_some {α : Type} {i : Int32} {n : Nat} {k : Option α} {o : α} (h : gd i n k = some o) : vp_in i n ∧ k = some o := by
  by_cases hc : i < 0 ∨ n ≤ i.toNatClampNeg
  · rw [gd, if_pos hc] at h; cases h
  · rw [gd, if_neg hc] at h; exact ⟨hc, h⟩
def bd {α β : Type} (x : Option α) (k : α → Option β) : Option β := match x with
  | none => none
  | some a => k a
theorem bd_some {α β : Type} {x : Option α} {k : α → Option β} {o : β} (h : bd x k = some o) : ∃ a, x = some a ∧ k a = some o := by
  cases x with
  | none => cases h
  | some a => exact ⟨a, rfl, h⟩
def zi {α : Type} (y : Int32) (k : Option α) : Option α := if y = 0 then none else k
theorem zi_some {α : Type} {y : Int32} {k : Option α} {o : α} (h : zi y k = some o) : ¬ y = 0 ∧ k = some o := by
  by_cases hc : y = 0
  · rw [zi, if_pos hc] at h; cases h
  · rw [zi, if_neg hc] at h; exact ⟨hc, h⟩
def zl {α : Type} (y : Int64) (k : Option α) : Option α := if y = 0 then none else k
theorem zl_some {α : Type} {y : Int64} {k : Option α} {o : α} (h : zl y k = some o) : ¬ y = 0 ∧ k = some o := by
  by_cases hc : y = 0
  · rw [zl, if_pos hc] at h; cases h
  · rw [zl, if_neg hc] at h; exact ⟨hc, h⟩
def bb {α : Type} (x : Int32) (k : Option α) : Option α := if x = 0 ∨ x = 1 then k else none
theorem bb_some {α : Type} {x : Int32} {k : Option α} {o : α} (h : bb x k = some o) : narrow .boolean (.int x) = .int x ∧ k = some o := by
  by_cases hc : x = 0 ∨ x = 1
  · rw [bb, if_pos hc] at h
    refine ⟨?_, h⟩
    rcases hc with rfl | rfl
    · rfl
    · rfl
  · rw [bb, if_neg hc] at h; cases h
theorem itT {α : Type} {c : Prop} {inst : Decidable c} {A B o : α} (h : c) (hf : (@ite α c inst A B) = o) : A = o := by rw [if_pos h] at hf; exact hf
theorem itF {α : Type} {c : Prop} {inst : Decidable c} {A B o : α} (h : ¬ c) (hf : (@ite α c inst A B) = o) : B = o := by rw [if_neg h] at hf; exact hf
def sa {α : Type} (T : Nat → Nat → α) (a : Nat) (f : Nat → α) : Nat → Nat → α := fun x => bif Nat.beq x a then f else T x
theorem sa_eq {α : Type} (T : Nat → Nat → α) (a : Nat) (f : Nat → α) (x : Nat) : sa T a f x = if x = a then f else T x := by
  unfold sa
  by_cases h : x = a
  · rw [if_pos h, h, Nat.beq_refl]; rfl
  · rw [if_neg h]
    cases hb : Nat.beq x a with
    | false => rfl
    | true => exact absurd (Nat.eq_of_beq_eq_true hb) h
abbrev tyS (cI cJ : ClassId) : List (ClassId × FieldType) := [(cI, .int), (cJ, .long)]
/-- what a method's walk stands on -/
def Cx (own : String) (ws : List Cond) (cc : ByteArray) (nl : Nat) (ret : Option FieldType) (D : va_G) (cl : List vw_C) (tys : List (ClassId × FieldType)) (p : Program) (s : State) (m : MethodId) (args : Array Value) (meth : Method) (c : Code) : Prop :=
  p.tables.exec = Jvm.exec ∧ c.code = cc ∧ meth.sig.returnType = ret ∧ c.maxLocals = nl ∧ s.vm.findClass own = some m.cls ∧ (∀ w ∈ ws, w.before args s = true) ∧ meth.locks = false ∧ va_K D cl tys s
def sPre (D : va_G) (cl : List vw_C) (tys : List (ClassId × FieldType)) (w : va_W) (sz : Nat) (av : List Value) : Array Value → State → Prop :=
  va_Pc av (fun U => U.heap.size = sz ∧ va_P D cl w U.heap ∧ va_K D cl tys U ∧ va_D (fun _ => True) w)
theorem sPre_blind {D : va_G} {cl : List vw_C} {tys : List (ClassId × FieldType)} {w : va_W} {sz : Nat} {av : List Value} : FrameBlind (sPre D cl tys w sz av) := fun a U g mk q => by
  obtain ⟨q0, q1, qP, qK, qD⟩ := q
  exact ⟨q0, q1, qP, va_K.moved (u := U) (U := U.calling g mk a) (Vm.Alike.refl U.vm) qK, qD⟩
def sB (D : va_G) (cl : List vw_C) (tys : List (ClassId × FieldType)) (A : Nat → Prop) (w : va_W) : Unit → State → Prop := fun _ t => va_P D cl w t.heap ∧ va_K D cl tys t ∧ va_D A w
def sZi (D : va_G) (cl : List vw_C) (tys : List (ClassId × FieldType)) (A : Nat → Prop) (w : va_W) (r : Int32) : Array Value → State → Outcome → State → Prop := va_Qi (fun (r1 : Int32) (_ : Unit) => r1 = r) (sB D cl tys A w) A
def sZl (D : va_G) (cl : List vw_C) (tys : List (ClassId × FieldType)) (A : Nat → Prop) (w : va_W) (r : Int64) : Array Value → State → Outcome → State → Prop := va_Ql (fun (r1 : Int64) (_ : Unit) => r1 = r) (sB D cl tys A w) A
def sZv (D : va_G) (cl : List vw_C) (tys : List (ClassId × FieldType)) (A : Nat → Prop) (w : va_W) : Array Value → State → Outcome → State → Prop := va_Qv (fun (_ : Unit) => True) (sB D cl tys A w) A
/-- a method's contract: from the world w, with the arguments av, it returns r, and the world is w' -/
def MI (l : Launch) (y : MethodName) (ws : List Cond) (rm : Room) (D : va_G) (cl : List vw_C) (tys : List (ClassId × FieldType)) (av : List Value) (w w' : va_W) (r : Int32) : Prop :=
  ∀ sz : Nat, Met l y ws rm (sPre D cl tys w sz av) (sZi D cl tys (va_A w sz) w' r) 0 0 (va_A w sz)
def ML (l : Launch) (y : MethodName) (ws : List Cond) (rm : Room) (D : va_G) (cl : List vw_C) (tys : List (ClassId × FieldType)) (av : List Value) (w w' : va_W) (r : Int64) : Prop :=
  ∀ sz : Nat, Met l y ws rm (sPre D cl tys w sz av) (sZl D cl tys (va_A w sz) w' r) 0 0 (va_A w sz)
def MV (l : Launch) (y : MethodName) (ws : List Cond) (rm : Room) (D : va_G) (cl : List vw_C) (tys : List (ClassId × FieldType)) (av : List Value) (w w' : va_W) : Prop :=
  ∀ sz : Nat, Met l y ws rm (sPre D cl tys w sz av) (sZv D cl tys (va_A w sz) w') 0 0 (va_A w sz)
theorem va_P_map {D : va_G} {cl : List vw_C} {ws wc : va_W} {H : Heap} (h : va_P D cl ws H) (is : List Nat) (hs : is.map (fun i => ws[i]?) = wc.map some) : va_P D cl wc H := by
  intro k q hk
  have h1 : (is.map (fun i => ws[i]?))[k]? = some (some q) := by rw [hs, List.getElem?_map, hk]; rfl
  rw [List.getElem?_map] at h1
  cases hi : is[k]? with
  | none => rw [hi] at h1; cases h1
  | some i => rw [hi] at h1; exact h i q (Option.some.inj h1)
section OWN
variable {p : Program} {l : Launch} {e : Env} {R : Room} {s : State} {m : MethodId} {args : Array Value} {below : List Frame} {meth : Method} {c : Code} {H : Heap} {locs : List Loc} {Q : State → Prop}
variable {y : MethodName} {bytes cc : ByteArray} {maxL nL n index : Nat} {ret : Option FieldType} {ws ws' : List Cond} {rm : Room} {Ts : List Cond} {own C : String} {b : Addr} {As rest st0 : List Value} {pc : Nat} {ls : Array Slot}
variable {D : va_G} {cl : List vw_C} {tys : List (ClassId × FieldType)} {A : Nat → Prop} {w wc wc' wr w' : va_W} {av : List Value}
theorem s_entry {post : Array Value → State → Outcome → State → Prop} {Qc : (Nat → Prop) → Array Value → State → Outcome → State → Prop} {sz : Nat} (hp : post = Qc (va_A w sz)) (hy : plainName y.cls = true) (ho : y.cls = own) (hw : ws = Cond.code y cc maxL ret :: ws') (hlen : (lg_sl av).length ≤ maxL)
    (body : ∀ p e s m args below meth c A, Cx own ws cc maxL ret D cl tys p s m args meth c → (∀ q : Nat, s.heap.size ≤ q → A q) → va_P D cl w s.heap → va_D A w → va_S A s.heap s.heap [] → ∀ ls, lv_has ls maxL (lv_args 0 av) → W p l e rm s m args below meth c s.heap [] 0 0 (MQ below (Qc A) args s 0 0 A) (F0 m 0 ls [])) :
    Met l y ws rm (sPre D cl tys w sz av) post 0 0 (va_A w sz) := by
  subst hp
  refine Met.ofW (cc := cc) (maxL := maxL) (ret := ret) hy hw ?_
  intro p e s m args below meth c s₁ B hml hv
  obtain ⟨rfl, hsz, hP, hK, hD0⟩ := hv
  have hts := atoms_spec (ws := ws) B.pre
  have hown : s.vm.findClass own = some m.cls := ho ▸ findClass_of_methodNamed B.named
  subst hsz
  have hl := lv_entry av (n := maxL) hlen
  rw [lg_entry_eq]
  exact body p e s m _ below meth c _ ⟨B.exec, B.bytes, B.returns, hml, hown, hts, B.notSynchronized, hK⟩ (fun q h => Or.inr h) hP hD0.self va_S.rf _ hl
theorem s_iret {r : Int32} (hx : p.tables.exec = Jvm.exec) (hb : c.code = cc) (hr : meth.sig.returnType = some .int) (hlocks : meth.locks = false) (hK : va_K D cl tys s) (hP : va_P D cl w H) (hD : va_D A w) (hS : va_S A s.heap H locs) (hdg : decode cc pc = .ok (.ireturn, 1)) :
    W p l e R s m args below meth c H locs 0 0 (MQ below (sZi D cl tys A w r) args s 0 0 A) (F0 m pc ls [.int r]) :=
  W.iret hx hb hr (fun t ht hW => ⟨⟨r, (), rfl, rfl, by rw [ht]; exact hP, va_K.moved hW.alike hK, hD⟩, hS.F ht⟩) hS.2.2 hdg hlocks
theorem s_zret {r : Int32} (hx : p.tables.exec = Jvm.exec) (hb : c.code = cc) (hr : meth.sig.returnType = some .boolean) (hlocks : meth.locks = false) (hK : va_K D cl tys s) (hP : va_P D cl w H) (hD : va_D A w) (hS : va_S A s.heap H locs) (hn : narrow .boolean (.int r) = .int r) (hdg : decode cc pc = .ok (.ireturn, 1)) :
    W p l e R s m args below meth c H locs 0 0 (MQ below (sZi D cl tys A w r) args s 0 0 A) (F0 m pc ls [.int r]) :=
  W.zret hx hb hr hn (fun t ht hW => ⟨⟨r, (), rfl, rfl, by rw [ht]; exact hP, va_K.moved hW.alike hK, hD⟩, hS.F ht⟩) hS.2.2 hdg hlocks
theorem s_lret {r : Int64} (hx : p.tables.exec = Jvm.exec) (hb : c.code = cc) (hr : meth.sig.returnType = some .long) (hlocks : meth.locks = false) (hK : va_K D cl tys s) (hP : va_P D cl w H) (hD : va_D A w) (hS : va_S A s.heap H locs) (hdg : decode cc pc = .ok (.lreturn, 1)) :
    W p l e R s m args below meth c H locs 0 0 (MQ below (sZl D cl tys A w r) args s 0 0 A) (F0 m pc ls [.long r]) :=
  W.lret hx hb hr (fun t ht hW => ⟨⟨r, (), rfl, rfl, by rw [ht]; exact hP, va_K.moved hW.alike hK, hD⟩, hS.F ht⟩) hS.2.2 hdg hlocks
theorem s_vret (hx : p.tables.exec = Jvm.exec) (hb : c.code = cc) (hr : meth.sig.returnType = none) (hlocks : meth.locks = false) (hK : va_K D cl tys s) (hP : va_P D cl w H) (hD : va_D A w) (hS : va_S A s.heap H locs) (hdg : decode cc pc = .ok (.return_, 1)) :
    W p l e R s m args below meth c H locs 0 0 (MQ below (sZv D cl tys A w) args s 0 0 A) (F0 m pc ls []) :=
  W.vret hx hb hr (fun t ht hW => ⟨⟨(), rfl, trivial, by rw [ht]; exact hP, va_K.moved hW.alike hK, hD⟩, hS.F ht⟩) hS.2.2 hdg hlocks
/-- a call's cells, cut out and put back -/
def sCut (w wc wr wc' w' : va_W) (isC isR perm : List Nat) : Prop :=
  isC.map (fun i => w[i]?) = wc.map some ∧ isR.map (fun i => w[i]?) = wr.map some ∧ va_nd isR = true ∧ va_nd isC = true ∧ (∀ i ∈ isR, i ∉ isC) ∧ va_nd perm = true ∧ perm.map (fun i => (wr ++ wc')[i]?) = w'.map some
theorem s_back {H1 : Heap} {isC isR perm : List Nat} (hc : sCut w wc wr wc' w' isC isR perm) (hP : va_P D cl w H) (hD : va_D A w) (hS : va_S A s.heap H locs) (hA : ∀ q : Nat, s.heap.size ≤ q → A q) (hk : ∀ q : Nat, q < H.size → ¬ va_A wc H.size q → H1[q]? = H[q]?) (hP1 : va_P D cl wc' H1) (hD1 : va_D (va_A wc H.size) wc') :
    va_P D cl w' H1 ∧ va_D A w' := by
  obtain ⟨hC, hR, n1, n2, hdis, n3, hpm⟩ := hc
  obtain ⟨hP2, hD2⟩ := va_join hP hD isC isR hC hR n1 hdis hk (va_free hD hS hA isC hC) hP1 hD1
  exact ⟨va_P_map hP2 perm hpm, hD2.sub perm n3 hpm⟩
theorem s_callVI {r : Int32} {isC isR perm : List Nat} {ci : Nat} {fs : List Value} {q : vw_C} (S0 : CallFix p m c cc nL s args Ts own) (hM : MI l y ws rm D cl tys (.ref b :: As) wc wc' r) (cw : CallW R s args own C index y bytes maxL ret ws rm 0 0 n) (hK : va_K D cl tys s) (hP : va_P D cl w H) (hD : va_D A w) (hS : va_S A s.heap H locs) (hA : ∀ q : Nat, s.heap.size ≤ q → A q) (hc : sCut w wc wr wc' w' isC isR perm) (hci : cl[ci]? = some q) (hq : q.1 = C) (hw0 : wc[0]? = some (b, .inr (ci, fs))) (hn : As.length = n) (hsz : ls.size = nL) (hst : st0 = As.reverse ++ .ref b :: rest) (hW : (rest.map fun v => v.category).sum ≤ 8) (hdg : decode cc pc = .ok (.invokevirtual index, 3))
    (kk : ∀ (H : Heap) (locs : List Loc), va_P D cl w' H → va_D A w' → va_S A s.heap H locs → W p l e R s m args below meth c H locs 0 0 Q (F0 m (pc + 3) ls (.int r :: rest))) : W p l e R s m args below meth c H locs 0 0 Q (F0 m pc ls st0) := by
  have hF := va_free hD hS hA isC hc.1
  have hPc := va_P_map hP isC hc.1
  have hDc := hD.sub isC hc.2.2.2.1 hc.1
  subst hq
  refine va_calli (va_runV (As := As) (rest := rest) S0 (hM H.size) cw ⟨sPre_blind, va_recv hK hPc hci hw0, fun U hU hW => ⟨rfl, by rw [hU], by rw [hU]; exact hPc, va_K.moved hW.alike hK, hDc.weaken (fun _ _ _ _ => trivial)⟩⟩ rfl hn hsz hst (lv_room hW) hdg ⟨Nat.zero_le _, Nat.zero_le _⟩) hS (fun q _ h => hF q h) hF (fun r1 u t H1 locs1 ht hvm hw hB hz1 hk1 hS1 => ?_)
  obtain rfl : r1 = r := hw
  obtain ⟨hP1, hK1, hD1⟩ := hB
  rw [ht] at hP1
  obtain ⟨hP2, hD2⟩ := s_back hc hP hD hS hA hk1 hP1 hD1
  exact kk H1 locs1 hP2 hD2 hS1
theorem s_callVL {r : Int64} {isC isR perm : List Nat} {ci : Nat} {fs : List Value} {q : vw_C} (S0 : CallFix p m c cc nL s args Ts own) (hM : ML l y ws rm D cl tys (.ref b :: As) wc wc' r) (cw : CallW R s args own C index y bytes maxL ret ws rm 0 0 n) (hK : va_K D cl tys s) (hP : va_P D cl w H) (hD : va_D A w) (hS : va_S A s.heap H locs) (hA : ∀ q : Nat, s.heap.size ≤ q → A q) (hc : sCut w wc wr wc' w' isC isR perm) (hci : cl[ci]? = some q) (hq : q.1 = C) (hw0 : wc[0]? = some (b, .inr (ci, fs))) (hn : As.length = n) (hsz : ls.size = nL) (hst : st0 = As.reverse ++ .ref b :: rest) (hW : (rest.map fun v => v.category).sum ≤ 8) (hdg : decode cc pc = .ok (.invokevirtual index, 3))
    (kk : ∀ (H : Heap) (locs : List Loc), va_P D cl w' H → va_D A w' → va_S A s.heap H locs → W p l e R s m args below meth c H locs 0 0 Q (F0 m (pc + 3) ls (.long r :: rest))) : W p l e R s m args below meth c H locs 0 0 Q (F0 m pc ls st0) := by
  have hF := va_free hD hS hA isC hc.1
  have hPc := va_P_map hP isC hc.1
  have hDc := hD.sub isC hc.2.2.2.1 hc.1
  subst hq
  refine va_calll (va_runV (As := As) (rest := rest) S0 (hM H.size) cw ⟨sPre_blind, va_recv hK hPc hci hw0, fun U hU hW => ⟨rfl, by rw [hU], by rw [hU]; exact hPc, va_K.moved hW.alike hK, hDc.weaken (fun _ _ _ _ => trivial)⟩⟩ rfl hn hsz hst (lv_room hW) hdg ⟨Nat.zero_le _, Nat.zero_le _⟩) hS (fun q _ h => hF q h) hF (fun r1 u t H1 locs1 ht hvm hw hB hz1 hk1 hS1 => ?_)
  obtain rfl : r1 = r := hw
  obtain ⟨hP1, hK1, hD1⟩ := hB
  rw [ht] at hP1
  obtain ⟨hP2, hD2⟩ := s_back hc hP hD hS hA hk1 hP1 hD1
  exact kk H1 locs1 hP2 hD2 hS1
theorem s_callVV {isC isR perm : List Nat} {ci : Nat} {fs : List Value} {q : vw_C} (S0 : CallFix p m c cc nL s args Ts own) (hM : MV l y ws rm D cl tys (.ref b :: As) wc wc') (cw : CallW R s args own C index y bytes maxL ret ws rm 0 0 n) (hK : va_K D cl tys s) (hP : va_P D cl w H) (hD : va_D A w) (hS : va_S A s.heap H locs) (hA : ∀ q : Nat, s.heap.size ≤ q → A q) (hc : sCut w wc wr wc' w' isC isR perm) (hci : cl[ci]? = some q) (hq : q.1 = C) (hw0 : wc[0]? = some (b, .inr (ci, fs))) (hn : As.length = n) (hsz : ls.size = nL) (hst : st0 = As.reverse ++ .ref b :: rest) (hW : (rest.map fun v => v.category).sum ≤ 8) (hdg : decode cc pc = .ok (.invokevirtual index, 3))
    (kk : ∀ (H : Heap) (locs : List Loc), va_P D cl w' H → va_D A w' → va_S A s.heap H locs → W p l e R s m args below meth c H locs 0 0 Q (F0 m (pc + 3) ls rest)) : W p l e R s m args below meth c H locs 0 0 Q (F0 m pc ls st0) := by
  have hF := va_free hD hS hA isC hc.1
  have hPc := va_P_map hP isC hc.1
  have hDc := hD.sub isC hc.2.2.2.1 hc.1
  subst hq
  refine va_callv (va_runV (As := As) (rest := rest) S0 (hM H.size) cw ⟨sPre_blind, va_recv hK hPc hci hw0, fun U hU hW => ⟨rfl, by rw [hU], by rw [hU]; exact hPc, va_K.moved hW.alike hK, hDc.weaken (fun _ _ _ _ => trivial)⟩⟩ rfl hn hsz hst (lv_room hW) hdg ⟨Nat.zero_le _, Nat.zero_le _⟩) hS (fun q _ h => hF q h) hF (fun u t H1 locs1 ht hvm hw hB hz1 hk1 hS1 => ?_)
  obtain ⟨hP1, hK1, hD1⟩ := hB
  rw [ht] at hP1
  obtain ⟨hP2, hD2⟩ := s_back hc hP hD hS hA hk1 hP1 hD1
  exact kk H1 locs1 hP2 hD2 hS1
theorem s_callSI {r : Int32} {isC isR perm : List Nat} (S0 : CallFix p m c cc nL s args Ts own) (hM : MI l y ws rm D cl tys As wc wc' r) (cw : CallB R s args own index y bytes maxL ret ws rm 0 0 n ∧ (Cond.static y).before args s = true) (hK : va_K D cl tys s) (hP : va_P D cl w H) (hD : va_D A w) (hS : va_S A s.heap H locs) (hA : ∀ q : Nat, s.heap.size ≤ q → A q) (hc : sCut w wc wr wc' w' isC isR perm) (hn : As.length = n) (hsz : ls.size = nL) (hst : st0 = As.reverse ++ rest) (hW : (rest.map fun v => v.category).sum ≤ 8) (hdg : decode cc pc = .ok (.invokestatic index, 3))
    (kk : ∀ (H : Heap) (locs : List Loc), va_P D cl w' H → va_D A w' → va_S A s.heap H locs → W p l e R s m args below meth c H locs 0 0 Q (F0 m (pc + 3) ls (.int r :: rest))) : W p l e R s m args below meth c H locs 0 0 Q (F0 m pc ls st0) := by
  have hF := va_free hD hS hA isC hc.1
  have hPc := va_P_map hP isC hc.1
  have hDc := hD.sub isC hc.2.2.2.1 hc.1
  refine va_calli (va_runS (As := As) (rest := rest) S0 (hM H.size) cw ⟨sPre_blind, fun U hU hW => ⟨rfl, by rw [hU], by rw [hU]; exact hPc, va_K.moved hW.alike hK, hDc.weaken (fun _ _ _ _ => trivial)⟩⟩ rfl hn hsz hst (lv_room hW) hdg ⟨Nat.zero_le _, Nat.zero_le _⟩) hS (fun q _ h => hF q h) hF (fun r1 u t H1 locs1 ht hvm hw hB hz1 hk1 hS1 => ?_)
  obtain rfl : r1 = r := hw
  obtain ⟨hP1, hK1, hD1⟩ := hB
  rw [ht] at hP1
  obtain ⟨hP2, hD2⟩ := s_back hc hP hD hS hA hk1 hP1 hD1
  exact kk H1 locs1 hP2 hD2 hS1
theorem s_callSL {r : Int64} {isC isR perm : List Nat} (S0 : CallFix p m c cc nL s args Ts own) (hM : ML l y ws rm D cl tys As wc wc' r) (cw : CallB R s args own index y bytes maxL ret ws rm 0 0 n ∧ (Cond.static y).before args s = true) (hK : va_K D cl tys s) (hP : va_P D cl w H) (hD : va_D A w) (hS : va_S A s.heap H locs) (hA : ∀ q : Nat, s.heap.size ≤ q → A q) (hc : sCut w wc wr wc' w' isC isR perm) (hn : As.length = n) (hsz : ls.size = nL) (hst : st0 = As.reverse ++ rest) (hW : (rest.map fun v => v.category).sum ≤ 8) (hdg : decode cc pc = .ok (.invokestatic index, 3))
    (kk : ∀ (H : Heap) (locs : List Loc), va_P D cl w' H → va_D A w' → va_S A s.heap H locs → W p l e R s m args below meth c H locs 0 0 Q (F0 m (pc + 3) ls (.long r :: rest))) : W p l e R s m args below meth c H locs 0 0 Q (F0 m pc ls st0) := by
  have hF := va_free hD hS hA isC hc.1
  have hPc := va_P_map hP isC hc.1
  have hDc := hD.sub isC hc.2.2.2.1 hc.1
  refine va_calll (va_runS (As := As) (rest := rest) S0 (hM H.size) cw ⟨sPre_blind, fun U hU hW => ⟨rfl, by rw [hU], by rw [hU]; exact hPc, va_K.moved hW.alike hK, hDc.weaken (fun _ _ _ _ => trivial)⟩⟩ rfl hn hsz hst (lv_room hW) hdg ⟨Nat.zero_le _, Nat.zero_le _⟩) hS (fun q _ h => hF q h) hF (fun r1 u t H1 locs1 ht hvm hw hB hz1 hk1 hS1 => ?_)
  obtain rfl : r1 = r := hw
  obtain ⟨hP1, hK1, hD1⟩ := hB
  rw [ht] at hP1
  obtain ⟨hP2, hD2⟩ := s_back hc hP hD hS hA hk1 hP1 hD1
  exact kk H1 locs1 hP2 hD2 hS1
end OWN
end
section
-- ===== PART A: goes FIRST, ahead of the names: the tables' words, and 'selects' of the private methods out of them =====
/-- a private method of a class that the tables say can be made, by its rows of tables_1 -/
def lw_okq (q : MethodName × Nat) : Prop := (q.1.cls ≠ "java/lang/invoke/MethodHandle" ∧ q.1.cls ≠ "java/lang/invoke/VarHandle") ∧ Cond.instantiable q.1.cls q.2 ∈ tables_1 ∧ Cond.privateMethod q.1 ∈ tables_1 ∧ Cond.instanceMethod q.1 ∈ tables_1
theorem lw_p0 : lw_okq (⟨"UpWhenDies", "refuse", "(I)I"⟩, 9) := ⟨⟨by decide +kernel, by decide +kernel⟩, List.mem_of_getElem? (i := 10) (by decide +kernel), List.mem_of_getElem? (i := 122) (by decide +kernel), List.mem_of_getElem? (i := 123) (by decide +kernel)⟩
theorem lw_p1 : lw_okq (⟨"UpWhenDies", "takeHouse", "()I"⟩, 9) := ⟨⟨by decide +kernel, by decide +kernel⟩, List.mem_of_getElem? (i := 10) (by decide +kernel), List.mem_of_getElem? (i := 138) (by decide +kernel), List.mem_of_getElem? (i := 139) (by decide +kernel)⟩
theorem lw_p2 : lw_okq (⟨"UpWhenDies$Telling", "letterAt", "(I)I"⟩, 2) := ⟨⟨by decide +kernel, by decide +kernel⟩, List.mem_of_getElem? (i := 57) (by decide +kernel), List.mem_of_getElem? (i := 146) (by decide +kernel), List.mem_of_getElem? (i := 147) (by decide +kernel)⟩
theorem lw_p3 : lw_okq (⟨"UpWhenDies$Telling", "playLodger", "(LUpWhenDies$Tower;II)Z"⟩, 2) := ⟨⟨by decide +kernel, by decide +kernel⟩, List.mem_of_getElem? (i := 57) (by decide +kernel), List.mem_of_getElem? (i := 176) (by decide +kernel), List.mem_of_getElem? (i := 177) (by decide +kernel)⟩
theorem lw_p4 : lw_okq (⟨"UpWhenDies$Telling", "digitAt", "(I)I"⟩, 2) := ⟨⟨by decide +kernel, by decide +kernel⟩, List.mem_of_getElem? (i := 57) (by decide +kernel), List.mem_of_getElem? (i := 180) (by decide +kernel), List.mem_of_getElem? (i := 181) (by decide +kernel)⟩
theorem lw_p5 : lw_okq (⟨"UpWhenDies$Telling", "playWish", "(LUpWhenDies$Tower;I)Z"⟩, 2) := ⟨⟨by decide +kernel, by decide +kernel⟩, List.mem_of_getElem? (i := 57) (by decide +kernel), List.mem_of_getElem? (i := 210) (by decide +kernel), List.mem_of_getElem? (i := 211) (by decide +kernel)⟩
theorem lw_p6 : lw_okq (⟨"UpWhenDies$Telling", "playYear", "(LUpWhenDies$Tower;II)Z"⟩, 2) := ⟨⟨by decide +kernel, by decide +kernel⟩, List.mem_of_getElem? (i := 57) (by decide +kernel), List.mem_of_getElem? (i := 215) (by decide +kernel), List.mem_of_getElem? (i := 216) (by decide +kernel)⟩
theorem lw_p7 : lw_okq (⟨"UpWhenDies$Tower", "ageAfter", "(II)I"⟩, 7) := ⟨⟨by decide +kernel, by decide +kernel⟩, List.mem_of_getElem? (i := 18) (by decide +kernel), List.mem_of_getElem? (i := 249) (by decide +kernel), List.mem_of_getElem? (i := 250) (by decide +kernel)⟩
theorem lw_p8 : lw_okq (⟨"UpWhenDies", "refuseLong", "(I)J"⟩, 9) := ⟨⟨by decide +kernel, by decide +kernel⟩, List.mem_of_getElem? (i := 10) (by decide +kernel), List.mem_of_getElem? (i := 329) (by decide +kernel), List.mem_of_getElem? (i := 330) (by decide +kernel)⟩
theorem lw_p9 : lw_okq (⟨"UpWhenDies$Odds", "clear", "()V"⟩, 3) := ⟨⟨by decide +kernel, by decide +kernel⟩, List.mem_of_getElem? (i := 71) (by decide +kernel), List.mem_of_getElem? (i := 340) (by decide +kernel), List.mem_of_getElem? (i := 341) (by decide +kernel)⟩
theorem lw_p10 : lw_okq (⟨"UpWhenDies$Odds", "addOneAbove", "(JJ)V"⟩, 3) := ⟨⟨by decide +kernel, by decide +kernel⟩, List.mem_of_getElem? (i := 71) (by decide +kernel), List.mem_of_getElem? (i := 349) (by decide +kernel), List.mem_of_getElem? (i := 350) (by decide +kernel)⟩
theorem lw_p11 : lw_okq (⟨"UpWhenDies$Odds", "atLeast", "(I)J"⟩, 3) := ⟨⟨by decide +kernel, by decide +kernel⟩, List.mem_of_getElem? (i := 71) (by decide +kernel), List.mem_of_getElem? (i := 355) (by decide +kernel), List.mem_of_getElem? (i := 356) (by decide +kernel)⟩
theorem lw_p12 : lw_okq (⟨"UpWhenDies$Odds", "shorten", "()V"⟩, 3) := ⟨⟨by decide +kernel, by decide +kernel⟩, List.mem_of_getElem? (i := 71) (by decide +kernel), List.mem_of_getElem? (i := 359) (by decide +kernel), List.mem_of_getElem? (i := 360) (by decide +kernel)⟩
theorem lw_p13 : lw_okq (⟨"UpWhenDies$Tower", "isInRing", "(I)Z"⟩, 7) := ⟨⟨by decide +kernel, by decide +kernel⟩, List.mem_of_getElem? (i := 18) (by decide +kernel), List.mem_of_getElem? (i := 413) (by decide +kernel), List.mem_of_getElem? (i := 414) (by decide +kernel)⟩
theorem lw_p14 : lw_okq (⟨"UpWhenDies", "fitsTheRow", "(I)Z"⟩, 9) := ⟨⟨by decide +kernel, by decide +kernel⟩, List.mem_of_getElem? (i := 10) (by decide +kernel), List.mem_of_getElem? (i := 443) (by decide +kernel), List.mem_of_getElem? (i := 444) (by decide +kernel)⟩
theorem lw_p15 : lw_okq (⟨"UpWhenDies", "firstNotSo", "()I"⟩, 9) := ⟨⟨by decide +kernel, by decide +kernel⟩, List.mem_of_getElem? (i := 10) (by decide +kernel), List.mem_of_getElem? (i := 452) (by decide +kernel), List.mem_of_getElem? (i := 453) (by decide +kernel)⟩
def lw_privs_1 : List (MethodName × Nat) := [(⟨"UpWhenDies", "refuse", "(I)I"⟩, 9), (⟨"UpWhenDies", "takeHouse", "()I"⟩, 9), (⟨"UpWhenDies$Telling", "letterAt", "(I)I"⟩, 2), (⟨"UpWhenDies$Telling", "playLodger", "(LUpWhenDies$Tower;II)Z"⟩, 2), (⟨"UpWhenDies$Telling", "digitAt", "(I)I"⟩, 2), (⟨"UpWhenDies$Telling", "playWish", "(LUpWhenDies$Tower;I)Z"⟩, 2), (⟨"UpWhenDies$Telling", "playYear", "(LUpWhenDies$Tower;II)Z"⟩, 2), (⟨"UpWhenDies$Tower", "ageAfter", "(II)I"⟩, 7), (⟨"UpWhenDies", "refuseLong", "(I)J"⟩, 9), (⟨"UpWhenDies$Odds", "clear", "()V"⟩, 3), (⟨"UpWhenDies$Odds", "addOneAbove", "(JJ)V"⟩, 3), (⟨"UpWhenDies$Odds", "atLeast", "(I)J"⟩, 3), (⟨"UpWhenDies$Odds", "shorten", "()V"⟩, 3), (⟨"UpWhenDies$Tower", "isInRing", "(I)Z"⟩, 7), (⟨"UpWhenDies", "fitsTheRow", "(I)Z"⟩, 9), (⟨"UpWhenDies", "firstNotSo", "()I"⟩, 9)]
theorem lw_r1 : ∀ q ∈ lw_privs_1, lw_okq q := List.forall_mem_cons.mpr ⟨lw_p0, List.forall_mem_cons.mpr ⟨lw_p1, List.forall_mem_cons.mpr ⟨lw_p2, List.forall_mem_cons.mpr ⟨lw_p3, List.forall_mem_cons.mpr ⟨lw_p4, List.forall_mem_cons.mpr ⟨lw_p5, List.forall_mem_cons.mpr ⟨lw_p6, List.forall_mem_cons.mpr ⟨lw_p7, List.forall_mem_cons.mpr ⟨lw_p8, List.forall_mem_cons.mpr ⟨lw_p9, List.forall_mem_cons.mpr ⟨lw_p10, List.forall_mem_cons.mpr ⟨lw_p11, List.forall_mem_cons.mpr ⟨lw_p12, List.forall_mem_cons.mpr ⟨lw_p13, List.forall_mem_cons.mpr ⟨lw_p14, List.forall_mem_cons.mpr ⟨lw_p15, fun _ h => absurd h List.not_mem_nil⟩⟩⟩⟩⟩⟩⟩⟩⟩⟩⟩⟩⟩⟩⟩⟩
theorem lw_p16 : lw_okq (⟨"UpWhenDiesModel", "no", "(I)I"⟩, 24) := ⟨⟨by decide +kernel, by decide +kernel⟩, List.mem_of_getElem? (i := 483) (by decide +kernel), List.mem_of_getElem? (i := 569) (by decide +kernel), List.mem_of_getElem? (i := 570) (by decide +kernel)⟩
theorem lw_p17 : lw_okq (⟨"UpWhenDiesModel", "statement", "()Z"⟩, 24) := ⟨⟨by decide +kernel, by decide +kernel⟩, List.mem_of_getElem? (i := 483) (by decide +kernel), List.mem_of_getElem? (i := 577) (by decide +kernel), List.mem_of_getElem? (i := 578) (by decide +kernel)⟩
theorem lw_p18 : lw_okq (⟨"UpWhenDiesModel", "next", "()I"⟩, 24) := ⟨⟨by decide +kernel, by decide +kernel⟩, List.mem_of_getElem? (i := 483) (by decide +kernel), List.mem_of_getElem? (i := 581) (by decide +kernel), List.mem_of_getElem? (i := 582) (by decide +kernel)⟩
theorem lw_p19 : lw_okq (⟨"UpWhenDiesModel", "readsLodger", "(I)Z"⟩, 24) := ⟨⟨by decide +kernel, by decide +kernel⟩, List.mem_of_getElem? (i := 483) (by decide +kernel), List.mem_of_getElem? (i := 585) (by decide +kernel), List.mem_of_getElem? (i := 586) (by decide +kernel)⟩
theorem lw_p20 : lw_okq (⟨"UpWhenDiesModel", "readsNumber", "(II)Z"⟩, 24) := ⟨⟨by decide +kernel, by decide +kernel⟩, List.mem_of_getElem? (i := 483) (by decide +kernel), List.mem_of_getElem? (i := 592) (by decide +kernel), List.mem_of_getElem? (i := 593) (by decide +kernel)⟩
theorem lw_p21 : lw_okq (⟨"UpWhenDiesModel", "isDigit", "()Z"⟩, 24) := ⟨⟨by decide +kernel, by decide +kernel⟩, List.mem_of_getElem? (i := 483) (by decide +kernel), List.mem_of_getElem? (i := 596) (by decide +kernel), List.mem_of_getElem? (i := 597) (by decide +kernel)⟩
theorem lw_p22 : lw_okq (⟨"UpWhenDiesModel", "readsDeaths", "()Z"⟩, 24) := ⟨⟨by decide +kernel, by decide +kernel⟩, List.mem_of_getElem? (i := 483) (by decide +kernel), List.mem_of_getElem? (i := 603) (by decide +kernel), List.mem_of_getElem? (i := 604) (by decide +kernel)⟩
theorem lw_p23 : lw_okq (⟨"UpWhenDiesModel", "passesAll", "(IZ)V"⟩, 24) := ⟨⟨by decide +kernel, by decide +kernel⟩, List.mem_of_getElem? (i := 483) (by decide +kernel), List.mem_of_getElem? (i := 607) (by decide +kernel), List.mem_of_getElem? (i := 608) (by decide +kernel)⟩
theorem lw_p24 : lw_okq (⟨"UpWhenDiesModel", "passes", "([I)V"⟩, 24) := ⟨⟨by decide +kernel, by decide +kernel⟩, List.mem_of_getElem? (i := 483) (by decide +kernel), List.mem_of_getElem? (i := 611) (by decide +kernel), List.mem_of_getElem? (i := 612) (by decide +kernel)⟩
theorem lw_p25 : lw_okq (⟨"UpWhenDiesModel", "passOne", "(I)I"⟩, 24) := ⟨⟨by decide +kernel, by decide +kernel⟩, List.mem_of_getElem? (i := 483) (by decide +kernel), List.mem_of_getElem? (i := 615) (by decide +kernel), List.mem_of_getElem? (i := 616) (by decide +kernel)⟩
theorem lw_p26 : lw_okq (⟨"UpWhenDiesModel", "comes", "(I)Z"⟩, 24) := ⟨⟨by decide +kernel, by decide +kernel⟩, List.mem_of_getElem? (i := 483) (by decide +kernel), List.mem_of_getElem? (i := 619) (by decide +kernel), List.mem_of_getElem? (i := 620) (by decide +kernel)⟩
theorem lw_p27 : lw_okq (⟨"UpWhenDiesModel", "comesIn", "(III)Z"⟩, 24) := ⟨⟨by decide +kernel, by decide +kernel⟩, List.mem_of_getElem? (i := 483) (by decide +kernel), List.mem_of_getElem? (i := 623) (by decide +kernel), List.mem_of_getElem? (i := 624) (by decide +kernel)⟩
theorem lw_p28 : lw_okq (⟨"UpWhenDiesModel", "whoOn", "(I)I"⟩, 24) := ⟨⟨by decide +kernel, by decide +kernel⟩, List.mem_of_getElem? (i := 483) (by decide +kernel), List.mem_of_getElem? (i := 630) (by decide +kernel), List.mem_of_getElem? (i := 631) (by decide +kernel)⟩
theorem lw_p29 : lw_okq (⟨"UpWhenDiesModel", "comesYear", "(I)Z"⟩, 24) := ⟨⟨by decide +kernel, by decide +kernel⟩, List.mem_of_getElem? (i := 483) (by decide +kernel), List.mem_of_getElem? (i := 634) (by decide +kernel), List.mem_of_getElem? (i := 635) (by decide +kernel)⟩
theorem lw_p30 : lw_okq (⟨"UpWhenDiesModel", "isAlive", "(I)Z"⟩, 24) := ⟨⟨by decide +kernel, by decide +kernel⟩, List.mem_of_getElem? (i := 483) (by decide +kernel), List.mem_of_getElem? (i := 638) (by decide +kernel), List.mem_of_getElem? (i := 639) (by decide +kernel)⟩
theorem lw_p31 : lw_okq (⟨"UpWhenDiesModel", "goesYear", "(I)I"⟩, 24) := ⟨⟨by decide +kernel, by decide +kernel⟩, List.mem_of_getElem? (i := 483) (by decide +kernel), List.mem_of_getElem? (i := 642) (by decide +kernel), List.mem_of_getElem? (i := 643) (by decide +kernel)⟩
def lw_privs_2 : List (MethodName × Nat) := [(⟨"UpWhenDiesModel", "no", "(I)I"⟩, 24), (⟨"UpWhenDiesModel", "statement", "()Z"⟩, 24), (⟨"UpWhenDiesModel", "next", "()I"⟩, 24), (⟨"UpWhenDiesModel", "readsLodger", "(I)Z"⟩, 24), (⟨"UpWhenDiesModel", "readsNumber", "(II)Z"⟩, 24), (⟨"UpWhenDiesModel", "isDigit", "()Z"⟩, 24), (⟨"UpWhenDiesModel", "readsDeaths", "()Z"⟩, 24), (⟨"UpWhenDiesModel", "passesAll", "(IZ)V"⟩, 24), (⟨"UpWhenDiesModel", "passes", "([I)V"⟩, 24), (⟨"UpWhenDiesModel", "passOne", "(I)I"⟩, 24), (⟨"UpWhenDiesModel", "comes", "(I)Z"⟩, 24), (⟨"UpWhenDiesModel", "comesIn", "(III)Z"⟩, 24), (⟨"UpWhenDiesModel", "whoOn", "(I)I"⟩, 24), (⟨"UpWhenDiesModel", "comesYear", "(I)Z"⟩, 24), (⟨"UpWhenDiesModel", "isAlive", "(I)Z"⟩, 24), (⟨"UpWhenDiesModel", "goesYear", "(I)I"⟩, 24)]
theorem lw_r2 : ∀ q ∈ lw_privs_2, lw_okq q := List.forall_mem_cons.mpr ⟨lw_p16, List.forall_mem_cons.mpr ⟨lw_p17, List.forall_mem_cons.mpr ⟨lw_p18, List.forall_mem_cons.mpr ⟨lw_p19, List.forall_mem_cons.mpr ⟨lw_p20, List.forall_mem_cons.mpr ⟨lw_p21, List.forall_mem_cons.mpr ⟨lw_p22, List.forall_mem_cons.mpr ⟨lw_p23, List.forall_mem_cons.mpr ⟨lw_p24, List.forall_mem_cons.mpr ⟨lw_p25, List.forall_mem_cons.mpr ⟨lw_p26, List.forall_mem_cons.mpr ⟨lw_p27, List.forall_mem_cons.mpr ⟨lw_p28, List.forall_mem_cons.mpr ⟨lw_p29, List.forall_mem_cons.mpr ⟨lw_p30, List.forall_mem_cons.mpr ⟨lw_p31, fun _ h => absurd h List.not_mem_nil⟩⟩⟩⟩⟩⟩⟩⟩⟩⟩⟩⟩⟩⟩⟩⟩
theorem lw_p32 : lw_okq (⟨"UpWhenDiesModel", "movesOf", "(II)I"⟩, 24) := ⟨⟨by decide +kernel, by decide +kernel⟩, List.mem_of_getElem? (i := 483) (by decide +kernel), List.mem_of_getElem? (i := 646) (by decide +kernel), List.mem_of_getElem? (i := 647) (by decide +kernel)⟩
theorem lw_p33 : lw_okq (⟨"UpWhenDiesModel", "chanceOf", "(I)I"⟩, 24) := ⟨⟨by decide +kernel, by decide +kernel⟩, List.mem_of_getElem? (i := 483) (by decide +kernel), List.mem_of_getElem? (i := 669) (by decide +kernel), List.mem_of_getElem? (i := 670) (by decide +kernel)⟩
theorem lw_p34 : lw_okq (⟨"UpWhenDiesModel", "areAlive", "(I)Z"⟩, 24) := ⟨⟨by decide +kernel, by decide +kernel⟩, List.mem_of_getElem? (i := 483) (by decide +kernel), List.mem_of_getElem? (i := 687) (by decide +kernel), List.mem_of_getElem? (i := 688) (by decide +kernel)⟩
theorem lw_p35 : lw_okq (⟨"UpWhenDiesModel", "aliveBits", "()I"⟩, 24) := ⟨⟨by decide +kernel, by decide +kernel⟩, List.mem_of_getElem? (i := 483) (by decide +kernel), List.mem_of_getElem? (i := 691) (by decide +kernel), List.mem_of_getElem? (i := 692) (by decide +kernel)⟩
theorem lw_p36 : lw_okq (⟨"UpWhenDiesModel", "lowest", "(I)J"⟩, 24) := ⟨⟨by decide +kernel, by decide +kernel⟩, List.mem_of_getElem? (i := 483) (by decide +kernel), List.mem_of_getElem? (i := 703) (by decide +kernel), List.mem_of_getElem? (i := 704) (by decide +kernel)⟩
theorem lw_p37 : lw_okq (⟨"UpWhenDiesModel", "partsTo", "(III)J"⟩, 24) := ⟨⟨by decide +kernel, by decide +kernel⟩, List.mem_of_getElem? (i := 483) (by decide +kernel), List.mem_of_getElem? (i := 709) (by decide +kernel), List.mem_of_getElem? (i := 710) (by decide +kernel)⟩
theorem lw_p38 : lw_okq (⟨"UpWhenDiesModel", "partsOf", "(I)J"⟩, 24) := ⟨⟨by decide +kernel, by decide +kernel⟩, List.mem_of_getElem? (i := 483) (by decide +kernel), List.mem_of_getElem? (i := 713) (by decide +kernel), List.mem_of_getElem? (i := 714) (by decide +kernel)⟩
theorem lw_p39 : lw_okq (⟨"UpWhenDiesModel", "partsInTwo", "(II)J"⟩, 24) := ⟨⟨by decide +kernel, by decide +kernel⟩, List.mem_of_getElem? (i := 483) (by decide +kernel), List.mem_of_getElem? (i := 717) (by decide +kernel), List.mem_of_getElem? (i := 718) (by decide +kernel)⟩
theorem lw_p40 : lw_okq (⟨"UpWhenDiesModel", "carriedBy", "(I)I"⟩, 24) := ⟨⟨by decide +kernel, by decide +kernel⟩, List.mem_of_getElem? (i := 483) (by decide +kernel), List.mem_of_getElem? (i := 744) (by decide +kernel), List.mem_of_getElem? (i := 745) (by decide +kernel)⟩
theorem lw_p41 : lw_okq (⟨"UpWhenDiesModel", "ringBits", "()I"⟩, 24) := ⟨⟨by decide +kernel, by decide +kernel⟩, List.mem_of_getElem? (i := 483) (by decide +kernel), List.mem_of_getElem? (i := 756) (by decide +kernel), List.mem_of_getElem? (i := 757) (by decide +kernel)⟩
theorem lw_p42 : lw_okq (⟨"UpWhenDiesModel", "doesFit", "(I)Z"⟩, 24) := ⟨⟨by decide +kernel, by decide +kernel⟩, List.mem_of_getElem? (i := 483) (by decide +kernel), List.mem_of_getElem? (i := 783) (by decide +kernel), List.mem_of_getElem? (i := 784) (by decide +kernel)⟩
def lw_privs_3 : List (MethodName × Nat) := [(⟨"UpWhenDiesModel", "movesOf", "(II)I"⟩, 24), (⟨"UpWhenDiesModel", "chanceOf", "(I)I"⟩, 24), (⟨"UpWhenDiesModel", "areAlive", "(I)Z"⟩, 24), (⟨"UpWhenDiesModel", "aliveBits", "()I"⟩, 24), (⟨"UpWhenDiesModel", "lowest", "(I)J"⟩, 24), (⟨"UpWhenDiesModel", "partsTo", "(III)J"⟩, 24), (⟨"UpWhenDiesModel", "partsOf", "(I)J"⟩, 24), (⟨"UpWhenDiesModel", "partsInTwo", "(II)J"⟩, 24), (⟨"UpWhenDiesModel", "carriedBy", "(I)I"⟩, 24), (⟨"UpWhenDiesModel", "ringBits", "()I"⟩, 24), (⟨"UpWhenDiesModel", "doesFit", "(I)Z"⟩, 24)]
theorem lw_r3 : ∀ q ∈ lw_privs_3, lw_okq q := List.forall_mem_cons.mpr ⟨lw_p32, List.forall_mem_cons.mpr ⟨lw_p33, List.forall_mem_cons.mpr ⟨lw_p34, List.forall_mem_cons.mpr ⟨lw_p35, List.forall_mem_cons.mpr ⟨lw_p36, List.forall_mem_cons.mpr ⟨lw_p37, List.forall_mem_cons.mpr ⟨lw_p38, List.forall_mem_cons.mpr ⟨lw_p39, List.forall_mem_cons.mpr ⟨lw_p40, List.forall_mem_cons.mpr ⟨lw_p41, List.forall_mem_cons.mpr ⟨lw_p42, fun _ h => absurd h List.not_mem_nil⟩⟩⟩⟩⟩⟩⟩⟩⟩⟩⟩
def lw_privs : List (MethodName × Nat) := lw_privs_1 ++ (lw_privs_2 ++ (lw_privs_3))
def lw_tbl : List Cond := k2_sels lw_privs ++ tables_1
theorem lw_privs_ok : ∀ q ∈ lw_privs, lw_okq q := by
  show ∀ q ∈ lw_privs_1 ++ (lw_privs_2 ++ (lw_privs_3)), lw_okq q
  exact List.forall_mem_append.mpr ⟨lw_r1, List.forall_mem_append.mpr ⟨lw_r2, lw_r3⟩⟩
-- ===== end of PART A; then your names; then what follows =====
/-! ===== BEGIN words of one list among another's, by their places ===== -/
theorem goodIn_r {big : List Cond} (ws : List Cond) (ps : List Nat) (hp : ws = ps.filterMap (fun i => big[i]?)) (h : ws.all goodWord = true) : GoodIn big ws := by
  intro w hw
  have h1 := List.all_eq_true.mp h w hw
  rw [hp] at hw
  obtain ⟨i, -, hi⟩ := List.mem_filterMap.mp hw
  have hm : w ∈ big := by first | exact List.mem_of_getElem? hi | exact List.getElem?_mem hi
  exact ⟨hm, good_of_word h1⟩
theorem goodIn_app {big a b : List Cond} (ha : GoodIn big a) (hb : GoodIn big b) : GoodIn big (a ++ b) := fun w h => (List.mem_append.mp h).elim (ha w) (hb w)
theorem goodIn_ca {big a b : List Cond} {c : Cond} (ha : GoodIn big (c :: a)) (hb : GoodIn big b) : GoodIn big (c :: (a ++ b)) := fun w h => (List.mem_cons.mp h).elim (fun e => ha w (List.mem_cons.mpr (Or.inl e))) (fun h => (List.mem_append.mp h).elim (fun h => ha w (List.mem_cons.mpr (Or.inr h))) (hb w))
theorem goodIn_sub {big ws : List Cond} (hm : ∀ w ∈ ws, w ∈ big) (h : ws.all goodWord = true) : GoodIn big ws := fun w hw => ⟨hm w hw, good_of_word (List.all_eq_true.mp h w hw)⟩
/-! ===== END ===== -/

/-! ===== BEGIN printed: names, fields, word lists, decode rows ===== -/
def RX0 : String := "UpWhenDies$Kinds"
def TX0 : u_T := fun k => match k with
  | _ => ("", "", "", false)
def tyX0 : Nat → FieldType := fun k => match k with
  | _ => .int
abbrev wsX00 : List Cond := u_ws RX0 TX0 0
theorem nmX0 : ∀ a, a < 0 → ∀ b, b < 0 → a ≠ b → (TX0 a).2.1 ≠ (TX0 b).2.1 := by decide +kernel
theorem tyX0_ok : ∀ k, k < 0 → parseFieldDescriptor (TX0 k).2.2.1 = some (tyX0 k) := by decide +kernel
abbrev cX0_ofLetter : ByteArray := prog_2_method_2_code
def yX0_ofLetter : MethodName := ⟨RX0, "ofLetter", "(I)I"⟩
abbrev cX0_entryFloor : ByteArray := prog_2_method_3_code
def yX0_entryFloor : MethodName := ⟨RX0, "entryFloor", "(II)I"⟩
abbrev cX0_chance : ByteArray := prog_2_method_4_code
def yX0_chance : MethodName := ⟨RX0, "chance", "(II)I"⟩
abbrev cX0_climb : ByteArray := prog_2_method_5_code
def yX0_climb : MethodName := ⟨RX0, "climb", "(II)I"⟩
abbrev cX0_strongChance : ByteArray := prog_2_method_6_code
def yX0_strongChance : MethodName := ⟨RX0, "strongChance", "(I)I"⟩
abbrev cX0_illChance : ByteArray := prog_2_method_7_code
def yX0_illChance : MethodName := ⟨RX0, "illChance", "(I)I"⟩
def RX1 : String := "UpWhenDies$Odds"
def TX1 : u_T := fun k => match k with
  | 0 => ("UpWhenDies$Odds", "byDeaths", "[J", true)
  | 1 => ("UpWhenDies$Odds", "above", "J", false)
  | _ => ("UpWhenDies$Odds", "below", "J", false)
def tyX1 : Nat → FieldType := fun k => match k with
  | 0 => .array .long
  | 1 => .long
  | _ => .long
abbrev wsX10 : List Cond := u_ws RX1 TX1 3
theorem nmX1 : ∀ a, a < 3 → ∀ b, b < 3 → a ≠ b → (TX1 a).2.1 ≠ (TX1 b).2.1 := by decide +kernel
theorem tyX1_ok : ∀ k, k < 3 → parseFieldDescriptor (TX1 k).2.2.1 = some (tyX1 k) := by decide +kernel
abbrev cX1_init : ByteArray := prog_3_method_1_code
def yX1_init : MethodName := ⟨RX1, "<init>", "()V"⟩
abbrev cX1_reckon : ByteArray := prog_3_method_2_code
def yX1_reckon : MethodName := ⟨RX1, "reckon", "(LUpWhenDies$Tower;III)V"⟩
abbrev cX1_clear : ByteArray := prog_3_method_3_code
def yX1_clear : MethodName := ⟨RX1, "clear", "()V"⟩
abbrev cX1_survival : ByteArray := prog_3_method_4_code
def yX1_survival : MethodName := ⟨RX1, "survival", "(LUpWhenDies$Tower;II)J"⟩
abbrev cX1_addOneAbove : ByteArray := prog_3_method_5_code
def yX1_addOneAbove : MethodName := ⟨RX1, "addOneAbove", "(JJ)V"⟩
abbrev cX1_atLeast : ByteArray := prog_3_method_6_code
def yX1_atLeast : MethodName := ⟨RX1, "atLeast", "(I)J"⟩
abbrev cX1_shorten : ByteArray := prog_3_method_7_code
def yX1_shorten : MethodName := ⟨RX1, "shorten", "()V"⟩
def RX2 : String := "UpWhenDies$Telling"
def TX2 : u_T := fun k => match k with
  | 0 => ("UpWhenDies$Telling", "letters", "[I", true)
  | _ => ("UpWhenDies$Telling", "size", "I", false)
def tyX2 : Nat → FieldType := fun k => match k with
  | 0 => .array .int
  | _ => .int
abbrev wsX20 : List Cond := u_ws RX2 TX2 2
theorem nmX2 : ∀ a, a < 2 → ∀ b, b < 2 → a ≠ b → (TX2 a).2.1 ≠ (TX2 b).2.1 := by decide +kernel
theorem tyX2_ok : ∀ k, k < 2 → parseFieldDescriptor (TX2 k).2.2.1 = some (tyX2 k) := by decide +kernel
abbrev cX2_init : ByteArray := prog_4_method_1_code
def yX2_init : MethodName := ⟨RX2, "<init>", "()V"⟩
abbrev cX2_isFull : ByteArray := prog_4_method_2_code
def yX2_isFull : MethodName := ⟨RX2, "isFull", "()Z"⟩
abbrev cX2_add : ByteArray := prog_4_method_3_code
def yX2_add : MethodName := ⟨RX2, "add", "(I)I"⟩
abbrev cX2_forget : ByteArray := prog_4_method_4_code
def yX2_forget : MethodName := ⟨RX2, "forget", "()V"⟩
abbrev cX2_statements : ByteArray := prog_4_method_5_code
def yX2_statements : MethodName := ⟨RX2, "statements", "()I"⟩
abbrev cX2_firstMisfit : ByteArray := prog_4_method_6_code
def yX2_firstMisfit : MethodName := ⟨RX2, "firstMisfit", "()I"⟩
abbrev cX2_playOn : ByteArray := prog_4_method_7_code
def yX2_playOn : MethodName := ⟨RX2, "playOn", "(LUpWhenDies$Tower;)I"⟩
abbrev cX2_behind : ByteArray := prog_4_method_8_code
def yX2_behind : MethodName := ⟨RX2, "behind", "(II)I"⟩
abbrev cX2_behindStart : ByteArray := prog_4_method_9_code
def yX2_behindStart : MethodName := ⟨RX2, "behindStart", "(I)I"⟩
abbrev cX2_behindAge : ByteArray := prog_4_method_10_code
def yX2_behindAge : MethodName := ⟨RX2, "behindAge", "(I)I"⟩
abbrev cX2_behindDead : ByteArray := prog_4_method_11_code
def yX2_behindDead : MethodName := ⟨RX2, "behindDead", "(II)I"⟩
abbrev cX2_playLodger : ByteArray := prog_4_method_12_code
def yX2_playLodger : MethodName := ⟨RX2, "playLodger", "(LUpWhenDies$Tower;II)Z"⟩
abbrev cX2_playWish : ByteArray := prog_4_method_13_code
def yX2_playWish : MethodName := ⟨RX2, "playWish", "(LUpWhenDies$Tower;I)Z"⟩
abbrev cX2_playYear : ByteArray := prog_4_method_14_code
def yX2_playYear : MethodName := ⟨RX2, "playYear", "(LUpWhenDies$Tower;II)Z"⟩
abbrev cX2_letterAt : ByteArray := prog_4_method_15_code
def yX2_letterAt : MethodName := ⟨RX2, "letterAt", "(I)I"⟩
abbrev cX2_digitAt : ByteArray := prog_4_method_16_code
def yX2_digitAt : MethodName := ⟨RX2, "digitAt", "(I)I"⟩
abbrev cX2_isDigit : ByteArray := prog_4_method_17_code
def yX2_isDigit : MethodName := ⟨RX2, "isDigit", "(I)Z"⟩
def RX3 : String := "UpWhenDies$Tower"
def TX3 : u_T := fun k => match k with
  | 0 => ("UpWhenDies$Tower", "kind", "[I", true)
  | 1 => ("UpWhenDies$Tower", "age", "[I", true)
  | 2 => ("UpWhenDies$Tower", "floor", "[I", true)
  | 3 => ("UpWhenDies$Tower", "load", "[I", true)
  | 4 => ("UpWhenDies$Tower", "wished", "[I", true)
  | 5 => ("UpWhenDies$Tower", "came", "I", false)
  | _ => ("UpWhenDies$Tower", "yearNow", "I", false)
def tyX3 : Nat → FieldType := fun k => match k with
  | 0 => .array .int
  | 1 => .array .int
  | 2 => .array .int
  | 3 => .array .int
  | 4 => .array .int
  | 5 => .int
  | _ => .int
abbrev wsX30 : List Cond := u_ws RX3 TX3 7
theorem nmX3 : ∀ a, a < 7 → ∀ b, b < 7 → a ≠ b → (TX3 a).2.1 ≠ (TX3 b).2.1 := by decide +kernel
theorem tyX3_ok : ∀ k, k < 7 → parseFieldDescriptor (TX3 k).2.2.1 = some (tyX3 k) := by decide +kernel
abbrev cX3_init : ByteArray := prog_5_method_1_code
def yX3_init : MethodName := ⟨RX3, "<init>", "()V"⟩
abbrev cX3_becomeLike : ByteArray := prog_5_method_2_code
def yX3_becomeLike : MethodName := ⟨RX3, "becomeLike", "(LUpWhenDies$Tower;)V"⟩
abbrev cX3_isFull : ByteArray := prog_5_method_3_code
def yX3_isFull : MethodName := ⟨RX3, "isFull", "()Z"⟩
abbrev cX3_isAlive : ByteArray := prog_5_method_4_code
def yX3_isAlive : MethodName := ⟨RX3, "isAlive", "(I)Z"⟩
abbrev cX3_areAlive : ByteArray := prog_5_method_5_code
def yX3_areAlive : MethodName := ⟨RX3, "areAlive", "(I)Z"⟩
abbrev cX3_living : ByteArray := prog_5_method_6_code
def yX3_living : MethodName := ⟨RX3, "living", "()I"⟩
abbrev cX3_whoLivesOn : ByteArray := prog_5_method_7_code
def yX3_whoLivesOn : MethodName := ⟨RX3, "whoLivesOn", "(I)I"⟩
abbrev cX3_sumOfLiving : ByteArray := prog_5_method_8_code
def yX3_sumOfLiving : MethodName := ⟨RX3, "sumOfLiving", "([I)I"⟩
abbrev cX3_couldComeIn : ByteArray := prog_5_method_9_code
def yX3_couldComeIn : MethodName := ⟨RX3, "couldComeIn", "(II)Z"⟩
abbrev cX3_admit : ByteArray := prog_5_method_10_code
def yX3_admit : MethodName := ⟨RX3, "admit", "(III)I"⟩
abbrev cX3_wishTold : ByteArray := prog_5_method_11_code
def yX3_wishTold : MethodName := ⟨RX3, "wishTold", "(I)I"⟩
abbrev cX3_chanceAfter : ByteArray := prog_5_method_12_code
def yX3_chanceAfter : MethodName := ⟨RX3, "chanceAfter", "(II)I"⟩
abbrev cX3_climbAfter : ByteArray := prog_5_method_13_code
def yX3_climbAfter : MethodName := ⟨RX3, "climbAfter", "(II)I"⟩
abbrev cX3_isOutOfReach : ByteArray := prog_5_method_14_code
def yX3_isOutOfReach : MethodName := ⟨RX3, "isOutOfReach", "(II)Z"⟩
abbrev cX3_staysDown : ByteArray := prog_5_method_15_code
def yX3_staysDown : MethodName := ⟨RX3, "staysDown", "(I)Z"⟩
abbrev cX3_floorsOf : ByteArray := prog_5_method_16_code
def yX3_floorsOf : MethodName := ⟨RX3, "floorsOf", "(I)I"⟩
abbrev cX3_floorsUp : ByteArray := prog_5_method_17_code
def yX3_floorsUp : MethodName := ⟨RX3, "floorsUp", "(II)I"⟩
abbrev cX3_passYear : ByteArray := prog_5_method_18_code
def yX3_passYear : MethodName := ⟨RX3, "passYear", "(I)I"⟩
abbrev cX3_burden : ByteArray := prog_5_method_19_code
def yX3_burden : MethodName := ⟨RX3, "burden", "(I)I"⟩
abbrev cX3_likeliestAbove : ByteArray := prog_5_method_20_code
def yX3_likeliestAbove : MethodName := ⟨RX3, "likeliestAbove", "(II)I"⟩
abbrev cX3_inRings : ByteArray := prog_5_method_21_code
def yX3_inRings : MethodName := ⟨RX3, "inRings", "()I"⟩
abbrev cX3_changeRings : ByteArray := prog_5_method_22_code
def yX3_changeRings : MethodName := ⟨RX3, "changeRings", "()I"⟩
abbrev cX3_livingByLot : ByteArray := prog_5_method_23_code
def yX3_livingByLot : MethodName := ⟨RX3, "livingByLot", "(II)I"⟩
abbrev cX3_ageAfter : ByteArray := prog_5_method_24_code
def yX3_ageAfter : MethodName := ⟨RX3, "ageAfter", "(II)I"⟩
abbrev cX3_isInRing : ByteArray := prog_5_method_25_code
def yX3_isInRing : MethodName := ⟨RX3, "isInRing", "(I)Z"⟩
abbrev cX3_holds : ByteArray := prog_5_method_26_code
def yX3_holds : MethodName := ⟨RX3, "holds", "(II)Z"⟩
def RX4 : String := "UpWhenDies"
def TX4 : u_T := fun k => match k with
  | 0 => ("UpWhenDies", "now", "LUpWhenDies$Tower;", true)
  | 1 => ("UpWhenDies", "trial", "LUpWhenDies$Tower;", true)
  | 2 => ("UpWhenDies", "kept", "LUpWhenDies$Tower;", true)
  | 3 => ("UpWhenDies", "hasImage", "Z", false)
  | 4 => ("UpWhenDies", "telling", "LUpWhenDies$Telling;", true)
  | 5 => ("UpWhenDies", "odds", "LUpWhenDies$Odds;", true)
  | 6 => ("UpWhenDies", "told", "[I", true)
  | 7 => ("UpWhenDies", "toldSize", "I", false)
  | _ => ("UpWhenDies", "refused", "[I", true)
def tyX4 : Nat → FieldType := fun k => match k with
  | 0 => .object "UpWhenDies$Tower"
  | 1 => .object "UpWhenDies$Tower"
  | 2 => .object "UpWhenDies$Tower"
  | 3 => .boolean
  | 4 => .object "UpWhenDies$Telling"
  | 5 => .object "UpWhenDies$Odds"
  | 6 => .array .int
  | 7 => .int
  | _ => .array .int
abbrev wsX40 : List Cond := u_ws RX4 TX4 9
theorem nmX4 : ∀ a, a < 9 → ∀ b, b < 9 → a ≠ b → (TX4 a).2.1 ≠ (TX4 b).2.1 := by decide +kernel
theorem tyX4_ok : ∀ k, k < 9 → parseFieldDescriptor (TX4 k).2.2.1 = some (tyX4 k) := by decide +kernel
abbrev cX4_init : ByteArray := prog_1_method_1_code
def yX4_init : MethodName := ⟨RX4, "<init>", "()V"⟩
abbrev cX4_letter : ByteArray := prog_1_method_2_code
def yX4_letter : MethodName := ⟨RX4, "letter", "(I)I"⟩
abbrev cX4_house : ByteArray := prog_1_method_3_code
def yX4_house : MethodName := ⟨RX4, "house", "()I"⟩
abbrev cX4_enter : ByteArray := prog_1_method_4_code
def yX4_enter : MethodName := ⟨RX4, "enter", "(III)I"⟩
abbrev cX4_lodger : ByteArray := prog_1_method_5_code
def yX4_lodger : MethodName := ⟨RX4, "lodger", "(II)I"⟩
abbrev cX4_wish : ByteArray := prog_1_method_6_code
def yX4_wish : MethodName := ⟨RX4, "wish", "(II)I"⟩
abbrev cX4_year : ByteArray := prog_1_method_7_code
def yX4_year : MethodName := ⟨RX4, "year", "(I)I"⟩
abbrev cX4_on : ByteArray := prog_1_method_8_code
def yX4_on : MethodName := ⟨RX4, "on", "(I)I"⟩
abbrev cX4_likely : ByteArray := prog_1_method_9_code
def yX4_likely : MethodName := ⟨RX4, "likely", "(IIII)J"⟩
abbrev cX4_mean : ByteArray := prog_1_method_10_code
def yX4_mean : MethodName := ⟨RX4, "mean", "()I"⟩
abbrev cX4_deaths : ByteArray := prog_1_method_11_code
def yX4_deaths : MethodName := ⟨RX4, "deaths", "(III)I"⟩
abbrev cX4_stuck : ByteArray := prog_1_method_12_code
def yX4_stuck : MethodName := ⟨RX4, "stuck", "()I"⟩
abbrev cX4_safe : ByteArray := prog_1_method_13_code
def yX4_safe : MethodName := ⟨RX4, "safe", "(I)I"⟩
abbrev cX4_carried : ByteArray := prog_1_method_14_code
def yX4_carried : MethodName := ⟨RX4, "carried", "(I)I"⟩
abbrev cX4_leastCarried : ByteArray := prog_1_method_15_code
def yX4_leastCarried : MethodName := ⟨RX4, "leastCarried", "()I"⟩
abbrev cX4_rings : ByteArray := prog_1_method_16_code
def yX4_rings : MethodName := ⟨RX4, "rings", "()I"⟩
abbrev cX4_changing : ByteArray := prog_1_method_17_code
def yX4_changing : MethodName := ⟨RX4, "changing", "()I"⟩
abbrev cX4_free : ByteArray := prog_1_method_18_code
def yX4_free : MethodName := ⟨RX4, "free", "()I"⟩
abbrev cX4_ages : ByteArray := prog_1_method_19_code
def yX4_ages : MethodName := ⟨RX4, "ages", "(II)I"⟩
abbrev cX4_row : ByteArray := prog_1_method_20_code
def yX4_row : MethodName := ⟨RX4, "row", "(I)I"⟩
abbrev cX4_fitting : ByteArray := prog_1_method_21_code
def yX4_fitting : MethodName := ⟨RX4, "fitting", "(I)I"⟩
abbrev cX4_judge : ByteArray := prog_1_method_22_code
def yX4_judge : MethodName := ⟨RX4, "judge", "()I"⟩
abbrev cX4_lots : ByteArray := prog_1_method_23_code
def yX4_lots : MethodName := ⟨RX4, "lots", "(II)I"⟩
abbrev cX4_image : ByteArray := prog_1_method_24_code
def yX4_image : MethodName := ⟨RX4, "image", "()I"⟩
abbrev cX4_back : ByteArray := prog_1_method_25_code
def yX4_back : MethodName := ⟨RX4, "back", "()I"⟩
abbrev cX4_count : ByteArray := prog_1_method_26_code
def yX4_count : MethodName := ⟨RX4, "count", "(I)I"⟩
abbrev cX4_refuse : ByteArray := prog_1_method_27_code
def yX4_refuse : MethodName := ⟨RX4, "refuse", "(I)I"⟩
abbrev cX4_refuseLong : ByteArray := prog_1_method_28_code
def yX4_refuseLong : MethodName := ⟨RX4, "refuseLong", "(I)J"⟩
abbrev cX4_isFloor : ByteArray := prog_1_method_29_code
def yX4_isFloor : MethodName := ⟨RX4, "isFloor", "(I)Z"⟩
abbrev cX4_isKind : ByteArray := prog_1_method_30_code
def yX4_isKind : MethodName := ⟨RX4, "isKind", "(I)Z"⟩
abbrev cX4_takeHouse : ByteArray := prog_1_method_31_code
def yX4_takeHouse : MethodName := ⟨RX4, "takeHouse", "()I"⟩
abbrev cX4_fitsTheRow : ByteArray := prog_1_method_32_code
def yX4_fitsTheRow : MethodName := ⟨RX4, "fitsTheRow", "(I)Z"⟩
abbrev cX4_firstNotSo : ByteArray := prog_1_method_33_code
def yX4_firstNotSo : MethodName := ⟨RX4, "firstNotSo", "()I"⟩
def RX5 : String := "UpWhenDiesModel"
def TX5 : u_T := fun k => match k with
  | 0 => ("UpWhenDiesModel", "refused", "[I", true)
  | 1 => ("UpWhenDiesModel", "kind", "[I", true)
  | 2 => ("UpWhenDiesModel", "age", "[I", true)
  | 3 => ("UpWhenDiesModel", "floorOf", "[I", true)
  | 4 => ("UpWhenDiesModel", "load", "[I", true)
  | 5 => ("UpWhenDiesModel", "wishOf", "[I", true)
  | 6 => ("UpWhenDiesModel", "lodgers", "I", false)
  | 7 => ("UpWhenDiesModel", "year", "I", false)
  | 8 => ("UpWhenDiesModel", "tape", "[I", true)
  | 9 => ("UpWhenDiesModel", "letter", "[I", true)
  | 10 => ("UpWhenDiesModel", "letterAt", "[I", true)
  | 11 => ("UpWhenDiesModel", "number", "[I", true)
  | 12 => ("UpWhenDiesModel", "from", "[I", true)
  | 13 => ("UpWhenDiesModel", "till", "[I", true)
  | 14 => ("UpWhenDiesModel", "taped", "I", false)
  | 15 => ("UpWhenDiesModel", "at", "I", false)
  | 16 => ("UpWhenDiesModel", "statements", "I", false)
  | 17 => ("UpWhenDiesModel", "kept", "[I", true)
  | 18 => ("UpWhenDiesModel", "hasImage", "Z", false)
  | 19 => ("UpWhenDiesModel", "isKeeping", "Z", false)
  | 20 => ("UpWhenDiesModel", "cursor", "I", false)
  | 21 => ("UpWhenDiesModel", "moving", "[I", true)
  | 22 => ("UpWhenDiesModel", "row", "[I", true)
  | _ => ("UpWhenDiesModel", "rowMany", "I", false)
def tyX5 : Nat → FieldType := fun k => match k with
  | 0 => .array .int
  | 1 => .array .int
  | 2 => .array .int
  | 3 => .array .int
  | 4 => .array .int
  | 5 => .array .int
  | 6 => .int
  | 7 => .int
  | 8 => .array .int
  | 9 => .array .int
  | 10 => .array .int
  | 11 => .array .int
  | 12 => .array .int
  | 13 => .array .int
  | 14 => .int
  | 15 => .int
  | 16 => .int
  | 17 => .array .int
  | 18 => .boolean
  | 19 => .boolean
  | 20 => .int
  | 21 => .array .int
  | 22 => .array .int
  | _ => .int
abbrev wsX50 : List Cond := u_ws RX5 TX5 24
theorem nmX5 : ∀ a, a < 24 → ∀ b, b < 24 → a ≠ b → (TX5 a).2.1 ≠ (TX5 b).2.1 := by decide +kernel
theorem tyX5_ok : ∀ k, k < 24 → parseFieldDescriptor (TX5 k).2.2.1 = some (tyX5 k) := by decide +kernel
abbrev cX5_init : ByteArray := prog_7_method_1_code
def yX5_init : MethodName := ⟨RX5, "<init>", "()V"⟩
abbrev cX5_no : ByteArray := prog_7_method_2_code
def yX5_no : MethodName := ⟨RX5, "no", "(I)I"⟩
abbrev cX5_lowest : ByteArray := prog_7_method_3_code
def yX5_lowest : MethodName := ⟨RX5, "lowest", "(I)J"⟩
abbrev cX5_isIn : ByteArray := prog_7_method_4_code
def yX5_isIn : MethodName := ⟨RX5, "isIn", "(III)Z"⟩
abbrev cX5_bound : ByteArray := prog_7_method_5_code
def yX5_bound : MethodName := ⟨RX5, "bound", "(III)I"⟩
abbrev cX5_least : ByteArray := prog_7_method_6_code
def yX5_least : MethodName := ⟨RX5, "least", "(II)I"⟩
abbrev cX5_isAlive : ByteArray := prog_7_method_7_code
def yX5_isAlive : MethodName := ⟨RX5, "isAlive", "(I)Z"⟩
abbrev cX5_isFloor : ByteArray := prog_7_method_8_code
def yX5_isFloor : MethodName := ⟨RX5, "isFloor", "(I)Z"⟩
abbrev cX5_whoOn : ByteArray := prog_7_method_9_code
def yX5_whoOn : MethodName := ⟨RX5, "whoOn", "(I)I"⟩
abbrev cX5_aliveBits : ByteArray := prog_7_method_10_code
def yX5_aliveBits : MethodName := ⟨RX5, "aliveBits", "()I"⟩
abbrev cX5_bits : ByteArray := prog_7_method_11_code
def yX5_bits : MethodName := ⟨RX5, "bits", "(I)I"⟩
abbrev cX5_letter : ByteArray := prog_7_method_12_code
def yX5_letter : MethodName := ⟨RX5, "letter", "(I)I"⟩
abbrev cX5_next : ByteArray := prog_7_method_13_code
def yX5_next : MethodName := ⟨RX5, "next", "()I"⟩
abbrev cX5_isDigit : ByteArray := prog_7_method_14_code
def yX5_isDigit : MethodName := ⟨RX5, "isDigit", "()Z"⟩
abbrev cX5_readsNumber : ByteArray := prog_7_method_15_code
def yX5_readsNumber : MethodName := ⟨RX5, "readsNumber", "(II)Z"⟩
abbrev cX5_kindOf : ByteArray := prog_7_method_16_code
def yX5_kindOf : MethodName := ⟨RX5, "kindOf", "(I)I"⟩
abbrev cX5_readsLodger : ByteArray := prog_7_method_17_code
def yX5_readsLodger : MethodName := ⟨RX5, "readsLodger", "(I)Z"⟩
abbrev cX5_readsDeaths : ByteArray := prog_7_method_18_code
def yX5_readsDeaths : MethodName := ⟨RX5, "readsDeaths", "()Z"⟩
abbrev cX5_statement : ByteArray := prog_7_method_19_code
def yX5_statement : MethodName := ⟨RX5, "statement", "()Z"⟩
abbrev cX5_comesYear : ByteArray := prog_7_method_20_code
def yX5_comesYear : MethodName := ⟨RX5, "comesYear", "(I)Z"⟩
abbrev cX5_comesIn : ByteArray := prog_7_method_21_code
def yX5_comesIn : MethodName := ⟨RX5, "comesIn", "(III)Z"⟩
abbrev cX5_comes : ByteArray := prog_7_method_22_code
def yX5_comes : MethodName := ⟨RX5, "comes", "(I)Z"⟩
abbrev cX5_house : ByteArray := prog_7_method_23_code
def yX5_house : MethodName := ⟨RX5, "house", "()I"⟩
abbrev cX5_passes : ByteArray := prog_7_method_24_code
def yX5_passes : MethodName := ⟨RX5, "passes", "([I)V"⟩
abbrev cX5_passOne : ByteArray := prog_7_method_25_code
def yX5_passOne : MethodName := ⟨RX5, "passOne", "(I)I"⟩
abbrev cX5_passesAll : ByteArray := prog_7_method_26_code
def yX5_passesAll : MethodName := ⟨RX5, "passesAll", "(IZ)V"⟩
abbrev cX5_image : ByteArray := prog_7_method_27_code
def yX5_image : MethodName := ⟨RX5, "image", "()I"⟩
abbrev cX5_back : ByteArray := prog_7_method_28_code
def yX5_back : MethodName := ⟨RX5, "back", "()I"⟩
abbrev cX5_entryOf : ByteArray := prog_7_method_29_code
def yX5_entryOf : MethodName := ⟨RX5, "entryOf", "(II)I"⟩
abbrev cX5_chanceOf : ByteArray := prog_7_method_30_code
def yX5_chanceOf : MethodName := ⟨RX5, "chanceOf", "(I)I"⟩
abbrev cX5_climbs : ByteArray := prog_7_method_31_code
def yX5_climbs : MethodName := ⟨RX5, "climbs", "(II)I"⟩
abbrev cX5_movesOf : ByteArray := prog_7_method_32_code
def yX5_movesOf : MethodName := ⟨RX5, "movesOf", "(II)I"⟩
abbrev cX5_goesYear : ByteArray := prog_7_method_33_code
def yX5_goesYear : MethodName := ⟨RX5, "goesYear", "(I)I"⟩
abbrev cX5_areAlive : ByteArray := prog_7_method_34_code
def yX5_areAlive : MethodName := ⟨RX5, "areAlive", "(I)Z"⟩
abbrev cX5_enter : ByteArray := prog_7_method_35_code
def yX5_enter : MethodName := ⟨RX5, "enter", "(III)I"⟩
abbrev cX5_lodger : ByteArray := prog_7_method_36_code
def yX5_lodger : MethodName := ⟨RX5, "lodger", "(II)I"⟩
abbrev cX5_wish : ByteArray := prog_7_method_37_code
def yX5_wish : MethodName := ⟨RX5, "wish", "(II)I"⟩
abbrev cX5_year : ByteArray := prog_7_method_38_code
def yX5_year : MethodName := ⟨RX5, "year", "(I)I"⟩
abbrev cX5_on : ByteArray := prog_7_method_39_code
def yX5_on : MethodName := ⟨RX5, "on", "(I)I"⟩
abbrev cX5_partsOf : ByteArray := prog_7_method_40_code
def yX5_partsOf : MethodName := ⟨RX5, "partsOf", "(I)J"⟩
abbrev cX5_divisor : ByteArray := prog_7_method_41_code
def yX5_divisor : MethodName := ⟨RX5, "divisor", "(JJ)J"⟩
abbrev cX5_partsTo : ByteArray := prog_7_method_42_code
def yX5_partsTo : MethodName := ⟨RX5, "partsTo", "(III)J"⟩
abbrev cX5_partsInTwo : ByteArray := prog_7_method_43_code
def yX5_partsInTwo : MethodName := ⟨RX5, "partsInTwo", "(II)J"⟩
abbrev cX5_likely : ByteArray := prog_7_method_44_code
def yX5_likely : MethodName := ⟨RX5, "likely", "(IIII)J"⟩
abbrev cX5_mean : ByteArray := prog_7_method_45_code
def yX5_mean : MethodName := ⟨RX5, "mean", "()I"⟩
abbrev cX5_deaths : ByteArray := prog_7_method_46_code
def yX5_deaths : MethodName := ⟨RX5, "deaths", "(III)I"⟩
abbrev cX5_stuck : ByteArray := prog_7_method_47_code
def yX5_stuck : MethodName := ⟨RX5, "stuck", "()I"⟩
abbrev cX5_safe : ByteArray := prog_7_method_48_code
def yX5_safe : MethodName := ⟨RX5, "safe", "(I)I"⟩
abbrev cX5_carriedBy : ByteArray := prog_7_method_49_code
def yX5_carriedBy : MethodName := ⟨RX5, "carriedBy", "(I)I"⟩
abbrev cX5_carried : ByteArray := prog_7_method_50_code
def yX5_carried : MethodName := ⟨RX5, "carried", "(I)I"⟩
abbrev cX5_leastCarried : ByteArray := prog_7_method_51_code
def yX5_leastCarried : MethodName := ⟨RX5, "leastCarried", "()I"⟩
abbrev cX5_ringBits : ByteArray := prog_7_method_52_code
def yX5_ringBits : MethodName := ⟨RX5, "ringBits", "()I"⟩
abbrev cX5_rings : ByteArray := prog_7_method_53_code
def yX5_rings : MethodName := ⟨RX5, "rings", "()I"⟩
abbrev cX5_changing : ByteArray := prog_7_method_54_code
def yX5_changing : MethodName := ⟨RX5, "changing", "()I"⟩
abbrev cX5_free : ByteArray := prog_7_method_55_code
def yX5_free : MethodName := ⟨RX5, "free", "()I"⟩
abbrev cX5_ages : ByteArray := prog_7_method_56_code
def yX5_ages : MethodName := ⟨RX5, "ages", "(II)I"⟩
abbrev cX5_row : ByteArray := prog_7_method_57_code
def yX5_row : MethodName := ⟨RX5, "row", "(I)I"⟩
abbrev cX5_doesFit : ByteArray := prog_7_method_58_code
def yX5_doesFit : MethodName := ⟨RX5, "doesFit", "(I)Z"⟩
abbrev cX5_fitting : ByteArray := prog_7_method_59_code
def yX5_fitting : MethodName := ⟨RX5, "fitting", "(I)I"⟩
abbrev cX5_judge : ByteArray := prog_7_method_60_code
def yX5_judge : MethodName := ⟨RX5, "judge", "()I"⟩
abbrev cX5_lots : ByteArray := prog_7_method_61_code
def yX5_lots : MethodName := ⟨RX5, "lots", "(II)I"⟩
abbrev cX5_count : ByteArray := prog_7_method_62_code
def yX5_count : MethodName := ⟨RX5, "count", "(I)I"⟩
def RJ6 : String := "java/lang/Integer"
def TJ6 : u_T := fun k => match k with
  | _ => ("", "", "", false)
def tyJ6 : Nat → FieldType := fun k => match k with
  | _ => .int
abbrev wsJ60 : List Cond := u_ws RJ6 TJ6 0
theorem nmJ6 : ∀ a, a < 0 → ∀ b, b < 0 → a ≠ b → (TJ6 a).2.1 ≠ (TJ6 b).2.1 := by decide +kernel
theorem tyJ6_ok : ∀ k, k < 0 → parseFieldDescriptor (TJ6 k).2.2.1 = some (tyJ6 k) := by decide +kernel
abbrev cJ6_bitCount_0f7a4 : ByteArray := prog_8_method_49_code
def yJ6_bitCount_0f7a4 : MethodName := ⟨RJ6, "bitCount", "(I)I"⟩
def RJ9 : String := "java/lang/Math"
def TJ9 : u_T := fun k => match k with
  | _ => ("", "", "", false)
def tyJ9 : Nat → FieldType := fun k => match k with
  | _ => .int
abbrev wsJ90 : List Cond := u_ws RJ9 TJ9 0
theorem nmJ9 : ∀ a, a < 0 → ∀ b, b < 0 → a ≠ b → (TJ9 a).2.1 ≠ (TJ9 b).2.1 := by decide +kernel
theorem tyJ9_ok : ∀ k, k < 0 → parseFieldDescriptor (TJ9 k).2.2.1 = some (tyJ9 k) := by decide +kernel
abbrev cJ9_max_7cf53 : ByteArray := prog_9_method_65_code
def yJ9_max_7cf53 : MethodName := ⟨RJ9, "max", "(II)I"⟩
abbrev cJ9_min_7cf53 : ByteArray := prog_9_method_69_code
def yJ9_min_7cf53 : MethodName := ⟨RJ9, "min", "(II)I"⟩
def RL : String := "UpWhenDiesLaw"
abbrev cL_law : ByteArray := code
def yL_law : MethodName := ⟨RL, "law", "([I)Z"⟩
def wsX0_ofLetter : List Cond := .code yX0_ofLetter cX0_ofLetter 1 (some .int) :: ([])
def wsX0_entryFloor : List Cond := .code yX0_entryFloor cX0_entryFloor 3 (some .int) :: ([.methodLink RX0 11 Lib.Math.max.name, .static Lib.Math.max.name, .initialized "java/lang/Math", .code Lib.Math.max.name Lib.Math.max.code 2 (some .int)])
def wsX0_strongChance : List Cond := .code yX0_strongChance cX0_strongChance 1 (some .int) :: ([])
def wsX0_illChance : List Cond := .code yX0_illChance cX0_illChance 1 (some .int) :: ([.methodLink RX0 24 Lib.Math.min.name, .static Lib.Math.min.name, .initialized "java/lang/Math", .code Lib.Math.min.name Lib.Math.min.code 2 (some .int)])
def wsX0_chance : List Cond := .code yX0_chance cX0_chance 3 (some .int) :: ([.methodLink RX0 11 Lib.Math.max.name, .static Lib.Math.max.name, .initialized "java/lang/Math", .code Lib.Math.max.name Lib.Math.max.code 2 (some .int), .methodLink RX0 17 yX0_strongChance, .static yX0_strongChance, .initialized RX0, .code yX0_strongChance cX0_strongChance 1 (some .int), .methodLink RX0 21 yX0_illChance, .static yX0_illChance, .code yX0_illChance cX0_illChance 1 (some .int), .methodLink RX0 24 Lib.Math.min.name, .static Lib.Math.min.name, .code Lib.Math.min.name Lib.Math.min.code 2 (some .int)])
def wsX0_climb : List Cond := .code yX0_climb cX0_climb 3 (some .int) :: ([.methodLink RX0 24 Lib.Math.min.name, .static Lib.Math.min.name, .initialized "java/lang/Math", .code Lib.Math.min.name Lib.Math.min.code 2 (some .int)])
def wsX1_init : List Cond := .code yX1_init cX1_init 1 none :: ([.methodLink RX1 3 objectInit, .instanceMethod objectInit, .code objectInit ⟨#[0xb1]⟩ 1 none, .arrayClass .long, .fieldLink RX1 9 "UpWhenDies$Odds" "byDeaths" "[J"] ++ wsX10)
def wsX1_clear : List Cond := .code yX1_clear cX1_clear 2 none :: ([.fieldLink RX1 9 "UpWhenDies$Odds" "byDeaths" "[J", .fieldLink RX1 57 "UpWhenDies$Odds" "below" "J"] ++ wsX10)
def wsX3_isAlive : List Cond := .code yX3_isAlive cX3_isAlive 2 (some .boolean) :: ([.fieldLink RX3 27 "UpWhenDies$Tower" "came" "I", .fieldLink RX3 18 "UpWhenDies$Tower" "floor" "[I"] ++ wsX30)
def wsX3_ageAfter : List Cond := .code yX3_ageAfter cX3_ageAfter 3 (some .int) :: ([.fieldLink RX3 15 "UpWhenDies$Tower" "age" "[I", .methodLink RX3 98 Lib.Math.min.name, .static Lib.Math.min.name, .initialized "java/lang/Math", .code Lib.Math.min.name Lib.Math.min.code 2 (some .int)] ++ wsX30)
def wsX3_chanceAfter_r1 : List Cond := [Cond.fieldLink RX3 9 "UpWhenDies$Tower" "kind" "[I", Cond.methodLink RX3 56 yX3_ageAfter, Cond.instanceMethod yX3_ageAfter, Cond.selects RX3 yX3_ageAfter yX3_ageAfter, Cond.initialized RX3, Cond.code yX3_ageAfter cX3_ageAfter 3 (some .int), Cond.fieldLink RX3 15 "UpWhenDies$Tower" "age" "[I", Cond.methodLink RX3 98 Lib.Math.min.name, Cond.static Lib.Math.min.name, Cond.initialized "java/lang/Math", Cond.code Lib.Math.min.name Lib.Math.min.code 2 (some .int), Cond.methodLink RX3 59 yX0_chance, Cond.static yX0_chance, Cond.initialized RX0, Cond.code yX0_chance cX0_chance 3 (some .int), Cond.methodLink RX0 11 Lib.Math.max.name, Cond.static Lib.Math.max.name, Cond.code Lib.Math.max.name Lib.Math.max.code 2 (some .int), Cond.methodLink RX0 17 yX0_strongChance, Cond.static yX0_strongChance, Cond.code yX0_strongChance cX0_strongChance 1 (some .int), Cond.methodLink RX0 21 yX0_illChance, Cond.static yX0_illChance, Cond.code yX0_illChance cX0_illChance 1 (some .int)]
def wsX3_chanceAfter_r2 : List Cond := [Cond.methodLink RX0 24 Lib.Math.min.name]
def wsX3_chanceAfter : List Cond := .code yX3_chanceAfter cX3_chanceAfter 3 (some .int) :: ((wsX3_chanceAfter_r1 ++ wsX3_chanceAfter_r2) ++ wsX30)
def wsX1_survival_r1 : List Cond := [Cond.methodLink RX1 63 yX3_chanceAfter, Cond.instanceMethod yX3_chanceAfter, Cond.selects RX3 yX3_chanceAfter yX3_chanceAfter, Cond.initialized RX3, Cond.code yX3_chanceAfter cX3_chanceAfter 3 (some .int), Cond.fieldLink RX3 9 "UpWhenDies$Tower" "kind" "[I", Cond.methodLink RX3 56 yX3_ageAfter, Cond.instanceMethod yX3_ageAfter, Cond.selects RX3 yX3_ageAfter yX3_ageAfter, Cond.code yX3_ageAfter cX3_ageAfter 3 (some .int), Cond.fieldLink RX3 15 "UpWhenDies$Tower" "age" "[I", Cond.methodLink RX3 98 Lib.Math.min.name, Cond.static Lib.Math.min.name, Cond.initialized "java/lang/Math", Cond.code Lib.Math.min.name Lib.Math.min.code 2 (some .int), Cond.methodLink RX3 59 yX0_chance, Cond.static yX0_chance, Cond.initialized RX0, Cond.code yX0_chance cX0_chance 3 (some .int), Cond.methodLink RX0 11 Lib.Math.max.name, Cond.static Lib.Math.max.name, Cond.code Lib.Math.max.name Lib.Math.max.code 2 (some .int), Cond.methodLink RX0 17 yX0_strongChance, Cond.static yX0_strongChance]
def wsX1_survival_r2 : List Cond := [Cond.code yX0_strongChance cX0_strongChance 1 (some .int), Cond.methodLink RX0 21 yX0_illChance, Cond.static yX0_illChance, Cond.code yX0_illChance cX0_illChance 1 (some .int), Cond.methodLink RX0 24 Lib.Math.min.name]
def wsX1_survival : List Cond := .code yX1_survival cX1_survival 6 (some .long) :: ((wsX1_survival_r1 ++ wsX1_survival_r2) ++ wsX30)
def wsX1_addOneAbove : List Cond := .code yX1_addOneAbove cX1_addOneAbove 6 none :: ([.fieldLink RX1 9 "UpWhenDies$Odds" "byDeaths" "[J", .fieldLink RX1 57 "UpWhenDies$Odds" "below" "J"] ++ wsX10)
def wsX3_staysDown : List Cond := .code yX3_staysDown cX3_staysDown 2 (some .boolean) :: ([.fieldLink RX3 9 "UpWhenDies$Tower" "kind" "[I", .fieldLink RX3 18 "UpWhenDies$Tower" "floor" "[I"] ++ wsX30)
def wsX1_atLeast : List Cond := .code yX1_atLeast cX1_atLeast 5 (some .long) :: ([.fieldLink RX1 9 "UpWhenDies$Odds" "byDeaths" "[J"] ++ wsX10)
def wsX1_shorten : List Cond := .code yX1_shorten cX1_shorten 8 none :: ([.fieldLink RX1 57 "UpWhenDies$Odds" "below" "J", .fieldLink RX1 53 "UpWhenDies$Odds" "above" "J"] ++ wsX10)
def wsX1_reckon_r1 : List Cond := [Cond.constantLong RX1 15 (10), Cond.constantLong RX1 17 (100), Cond.fieldLink RX1 28 "UpWhenDies$Tower" "floor" "[I", Cond.methodLink RX1 40 Lib.Math.max.name, Cond.static Lib.Math.max.name, Cond.initialized "java/lang/Math", Cond.code Lib.Math.max.name Lib.Math.max.code 2 (some .int), Cond.fieldLink RX1 53 "UpWhenDies$Odds" "above" "J", Cond.fieldLink RX1 57 "UpWhenDies$Odds" "below" "J", Cond.methodLink RX1 19 yX1_clear, Cond.instanceMethod yX1_clear, Cond.selects RX1 yX1_clear yX1_clear, Cond.initialized RX1, Cond.code yX1_clear cX1_clear 2 none, Cond.fieldLink RX1 9 "UpWhenDies$Odds" "byDeaths" "[J", Cond.methodLink RX1 22 yX3_isAlive, Cond.instanceMethod yX3_isAlive, Cond.selects RX3 yX3_isAlive yX3_isAlive, Cond.initialized RX3, Cond.code yX3_isAlive cX3_isAlive 2 (some .boolean), Cond.fieldLink RX3 27 "UpWhenDies$Tower" "came" "I", Cond.fieldLink RX3 18 "UpWhenDies$Tower" "floor" "[I", Cond.methodLink RX1 32 yX1_survival, Cond.static yX1_survival]
def wsX1_reckon_r2 : List Cond := [Cond.code yX1_survival cX1_survival 6 (some .long), Cond.methodLink RX1 63 yX3_chanceAfter, Cond.instanceMethod yX3_chanceAfter, Cond.selects RX3 yX3_chanceAfter yX3_chanceAfter, Cond.code yX3_chanceAfter cX3_chanceAfter 3 (some .int), Cond.fieldLink RX3 9 "UpWhenDies$Tower" "kind" "[I", Cond.methodLink RX3 56 yX3_ageAfter, Cond.instanceMethod yX3_ageAfter, Cond.selects RX3 yX3_ageAfter yX3_ageAfter, Cond.code yX3_ageAfter cX3_ageAfter 3 (some .int), Cond.fieldLink RX3 15 "UpWhenDies$Tower" "age" "[I", Cond.methodLink RX3 98 Lib.Math.min.name, Cond.static Lib.Math.min.name, Cond.code Lib.Math.min.name Lib.Math.min.code 2 (some .int), Cond.methodLink RX3 59 yX0_chance, Cond.static yX0_chance, Cond.initialized RX0, Cond.code yX0_chance cX0_chance 3 (some .int), Cond.methodLink RX0 11 Lib.Math.max.name, Cond.methodLink RX0 17 yX0_strongChance, Cond.static yX0_strongChance, Cond.code yX0_strongChance cX0_strongChance 1 (some .int), Cond.methodLink RX0 21 yX0_illChance, Cond.static yX0_illChance]
def wsX1_reckon_r3 : List Cond := [Cond.code yX0_illChance cX0_illChance 1 (some .int), Cond.methodLink RX0 24 Lib.Math.min.name, Cond.methodLink RX1 36 yX1_addOneAbove, Cond.instanceMethod yX1_addOneAbove, Cond.selects RX1 yX1_addOneAbove yX1_addOneAbove, Cond.code yX1_addOneAbove cX1_addOneAbove 6 none, Cond.methodLink RX1 46 yX3_staysDown, Cond.instanceMethod yX3_staysDown, Cond.selects RX3 yX3_staysDown yX3_staysDown, Cond.code yX3_staysDown cX3_staysDown 2 (some .boolean), Cond.methodLink RX1 49 yX1_atLeast, Cond.instanceMethod yX1_atLeast, Cond.selects RX1 yX1_atLeast yX1_atLeast, Cond.code yX1_atLeast cX1_atLeast 5 (some .long), Cond.methodLink RX1 60 yX1_shorten, Cond.instanceMethod yX1_shorten, Cond.selects RX1 yX1_shorten yX1_shorten, Cond.code yX1_shorten cX1_shorten 8 none]
def wsX1_reckon : List Cond := .code yX1_reckon cX1_reckon 8 none :: ((wsX1_reckon_r1 ++ (wsX1_reckon_r2 ++ wsX1_reckon_r3)) ++ wsX30 ++ wsX10)
def wsX2_init : List Cond := .code yX2_init cX2_init 1 none :: ([.methodLink RX2 3 objectInit, .instanceMethod objectInit, .code objectInit ⟨#[0xb1]⟩ 1 none, .arrayClass .int, .fieldLink RX2 9 "UpWhenDies$Telling" "letters" "[I"] ++ wsX20)
def wsX2_isFull : List Cond := .code yX2_isFull cX2_isFull 1 (some .boolean) :: ([.fieldLink RX2 15 "UpWhenDies$Telling" "size" "I"] ++ wsX20)
def wsX2_add : List Cond := .code yX2_add cX2_add 2 (some .int) :: ([.fieldLink RX2 15 "UpWhenDies$Telling" "size" "I", .fieldLink RX2 9 "UpWhenDies$Telling" "letters" "[I"] ++ wsX20)
def wsX2_forget : List Cond := .code yX2_forget cX2_forget 1 none :: ([.fieldLink RX2 15 "UpWhenDies$Telling" "size" "I"] ++ wsX20)
def wsX2_letterAt : List Cond := .code yX2_letterAt cX2_letterAt 2 (some .int) :: ([.fieldLink RX2 15 "UpWhenDies$Telling" "size" "I", .fieldLink RX2 9 "UpWhenDies$Telling" "letters" "[I"] ++ wsX20)
def wsX2_statements : List Cond := .code yX2_statements cX2_statements 3 (some .int) :: ([.fieldLink RX2 15 "UpWhenDies$Telling" "size" "I", .methodLink RX2 19 yX2_letterAt, .instanceMethod yX2_letterAt, .selects RX2 yX2_letterAt yX2_letterAt, .initialized RX2, .code yX2_letterAt cX2_letterAt 2 (some .int), .fieldLink RX2 9 "UpWhenDies$Telling" "letters" "[I"] ++ wsX20)
def wsX2_behindStart : List Cond := .code yX2_behindStart cX2_behindStart 1 (some .int) :: ([])
def wsX2_isDigit : List Cond := .code yX2_isDigit cX2_isDigit 1 (some .boolean) :: ([])
def wsX2_behindAge : List Cond := .code yX2_behindAge cX2_behindAge 1 (some .int) :: ([])
def wsX2_behindDead : List Cond := .code yX2_behindDead cX2_behindDead 2 (some .int) :: ([.methodLink RX2 46 yX2_isDigit, .static yX2_isDigit, .initialized RX2, .code yX2_isDigit cX2_isDigit 1 (some .boolean)])
def wsX2_behind : List Cond := .code yX2_behind cX2_behind 2 (some .int) :: ([.methodLink RX2 38 yX2_behindStart, .static yX2_behindStart, .initialized RX2, .code yX2_behindStart cX2_behindStart 1 (some .int), .methodLink RX2 41 yX0_ofLetter, .static yX0_ofLetter, .initialized RX0, .code yX0_ofLetter cX0_ofLetter 1 (some .int), .methodLink RX2 46 yX2_isDigit, .static yX2_isDigit, .code yX2_isDigit cX2_isDigit 1 (some .boolean), .methodLink RX2 50 yX2_behindAge, .static yX2_behindAge, .code yX2_behindAge cX2_behindAge 1 (some .int), .methodLink RX2 53 yX2_behindDead, .static yX2_behindDead, .code yX2_behindDead cX2_behindDead 2 (some .int)])
def wsX2_firstMisfit_r1 : List Cond := [Cond.fieldLink RX2 15 "UpWhenDies$Telling" "size" "I", Cond.methodLink RX2 19 yX2_letterAt, Cond.instanceMethod yX2_letterAt, Cond.selects RX2 yX2_letterAt yX2_letterAt, Cond.initialized RX2, Cond.code yX2_letterAt cX2_letterAt 2 (some .int), Cond.fieldLink RX2 9 "UpWhenDies$Telling" "letters" "[I", Cond.methodLink RX2 23 yX2_behind, Cond.static yX2_behind, Cond.code yX2_behind cX2_behind 2 (some .int), Cond.methodLink RX2 38 yX2_behindStart, Cond.static yX2_behindStart, Cond.code yX2_behindStart cX2_behindStart 1 (some .int), Cond.methodLink RX2 41 yX0_ofLetter, Cond.static yX0_ofLetter, Cond.initialized RX0, Cond.code yX0_ofLetter cX0_ofLetter 1 (some .int), Cond.methodLink RX2 46 yX2_isDigit, Cond.static yX2_isDigit, Cond.code yX2_isDigit cX2_isDigit 1 (some .boolean), Cond.methodLink RX2 50 yX2_behindAge, Cond.static yX2_behindAge, Cond.code yX2_behindAge cX2_behindAge 1 (some .int), Cond.methodLink RX2 53 yX2_behindDead]
def wsX2_firstMisfit_r2 : List Cond := [Cond.static yX2_behindDead, Cond.code yX2_behindDead cX2_behindDead 2 (some .int)]
def wsX2_firstMisfit : List Cond := .code yX2_firstMisfit cX2_firstMisfit 3 (some .int) :: ((wsX2_firstMisfit_r1 ++ wsX2_firstMisfit_r2) ++ wsX20)
def wsX2_digitAt : List Cond := .code yX2_digitAt cX2_digitAt 2 (some .int) :: ([.methodLink RX2 19 yX2_letterAt, .instanceMethod yX2_letterAt, .selects RX2 yX2_letterAt yX2_letterAt, .initialized RX2, .code yX2_letterAt cX2_letterAt 2 (some .int), .fieldLink RX2 15 "UpWhenDies$Telling" "size" "I", .fieldLink RX2 9 "UpWhenDies$Telling" "letters" "[I"] ++ wsX20)
def wsX3_isFull : List Cond := .code yX3_isFull cX3_isFull 1 (some .boolean) :: ([.fieldLink RX3 27 "UpWhenDies$Tower" "came" "I"] ++ wsX30)
def wsX3_whoLivesOn : List Cond := .code yX3_whoLivesOn cX3_whoLivesOn 3 (some .int) :: ([.fieldLink RX3 18 "UpWhenDies$Tower" "floor" "[I", .methodLink RX3 38 yX3_isAlive, .instanceMethod yX3_isAlive, .selects RX3 yX3_isAlive yX3_isAlive, .initialized RX3, .code yX3_isAlive cX3_isAlive 2 (some .boolean), .fieldLink RX3 27 "UpWhenDies$Tower" "came" "I"] ++ wsX30)
def wsX3_couldComeIn : List Cond := .code yX3_couldComeIn cX3_couldComeIn 3 (some .boolean) :: ([.methodLink RX3 42 yX3_isFull, .instanceMethod yX3_isFull, .selects RX3 yX3_isFull yX3_isFull, .initialized RX3, .code yX3_isFull cX3_isFull 1 (some .boolean), .fieldLink RX3 27 "UpWhenDies$Tower" "came" "I", .methodLink RX3 46 yX0_entryFloor, .static yX0_entryFloor, .initialized RX0, .code yX0_entryFloor cX0_entryFloor 3 (some .int), .methodLink RX0 11 Lib.Math.max.name, .static Lib.Math.max.name, .initialized "java/lang/Math", .code Lib.Math.max.name Lib.Math.max.code 2 (some .int), .methodLink RX3 52 yX3_whoLivesOn, .instanceMethod yX3_whoLivesOn, .selects RX3 yX3_whoLivesOn yX3_whoLivesOn, .code yX3_whoLivesOn cX3_whoLivesOn 3 (some .int), .fieldLink RX3 18 "UpWhenDies$Tower" "floor" "[I", .methodLink RX3 38 yX3_isAlive, .instanceMethod yX3_isAlive, .selects RX3 yX3_isAlive yX3_isAlive, .code yX3_isAlive cX3_isAlive 2 (some .boolean)] ++ wsX30)
def wsX3_admit : List Cond := .code yX3_admit cX3_admit 5 (some .int) :: ([.fieldLink RX3 27 "UpWhenDies$Tower" "came" "I", .fieldLink RX3 9 "UpWhenDies$Tower" "kind" "[I", .fieldLink RX3 15 "UpWhenDies$Tower" "age" "[I", .fieldLink RX3 18 "UpWhenDies$Tower" "floor" "[I", .fieldLink RX3 21 "UpWhenDies$Tower" "load" "[I", .fieldLink RX3 24 "UpWhenDies$Tower" "wished" "[I", .methodLink RX3 46 yX0_entryFloor, .static yX0_entryFloor, .initialized RX0, .code yX0_entryFloor cX0_entryFloor 3 (some .int), .methodLink RX0 11 Lib.Math.max.name, .static Lib.Math.max.name, .initialized "java/lang/Math", .code Lib.Math.max.name Lib.Math.max.code 2 (some .int)] ++ wsX30)
def wsX2_playLodger_r1 : List Cond := [Cond.methodLink RX2 19 yX2_letterAt, Cond.instanceMethod yX2_letterAt, Cond.selects RX2 yX2_letterAt yX2_letterAt, Cond.initialized RX2, Cond.code yX2_letterAt cX2_letterAt 2 (some .int), Cond.fieldLink RX2 15 "UpWhenDies$Telling" "size" "I", Cond.fieldLink RX2 9 "UpWhenDies$Telling" "letters" "[I", Cond.methodLink RX2 41 yX0_ofLetter, Cond.static yX0_ofLetter, Cond.initialized RX0, Cond.code yX0_ofLetter cX0_ofLetter 1 (some .int), Cond.methodLink RX2 56 yX2_digitAt, Cond.instanceMethod yX2_digitAt, Cond.selects RX2 yX2_digitAt yX2_digitAt, Cond.code yX2_digitAt cX2_digitAt 2 (some .int), Cond.methodLink RX2 59 yX3_couldComeIn, Cond.instanceMethod yX3_couldComeIn, Cond.selects RX3 yX3_couldComeIn yX3_couldComeIn, Cond.initialized RX3, Cond.code yX3_couldComeIn cX3_couldComeIn 3 (some .boolean), Cond.methodLink RX3 42 yX3_isFull, Cond.instanceMethod yX3_isFull, Cond.selects RX3 yX3_isFull yX3_isFull, Cond.code yX3_isFull cX3_isFull 1 (some .boolean)]
def wsX2_playLodger_r2 : List Cond := [Cond.fieldLink RX3 27 "UpWhenDies$Tower" "came" "I", Cond.methodLink RX3 46 yX0_entryFloor, Cond.static yX0_entryFloor, Cond.code yX0_entryFloor cX0_entryFloor 3 (some .int), Cond.methodLink RX0 11 Lib.Math.max.name, Cond.static Lib.Math.max.name, Cond.initialized "java/lang/Math", Cond.code Lib.Math.max.name Lib.Math.max.code 2 (some .int), Cond.methodLink RX3 52 yX3_whoLivesOn, Cond.instanceMethod yX3_whoLivesOn, Cond.selects RX3 yX3_whoLivesOn yX3_whoLivesOn, Cond.code yX3_whoLivesOn cX3_whoLivesOn 3 (some .int), Cond.fieldLink RX3 18 "UpWhenDies$Tower" "floor" "[I", Cond.methodLink RX3 38 yX3_isAlive, Cond.instanceMethod yX3_isAlive, Cond.selects RX3 yX3_isAlive yX3_isAlive, Cond.code yX3_isAlive cX3_isAlive 2 (some .boolean), Cond.methodLink RX2 65 yX3_admit, Cond.instanceMethod yX3_admit, Cond.selects RX3 yX3_admit yX3_admit, Cond.code yX3_admit cX3_admit 5 (some .int), Cond.fieldLink RX3 9 "UpWhenDies$Tower" "kind" "[I", Cond.fieldLink RX3 15 "UpWhenDies$Tower" "age" "[I", Cond.fieldLink RX3 21 "UpWhenDies$Tower" "load" "[I"]
def wsX2_playLodger_r3 : List Cond := [Cond.fieldLink RX3 24 "UpWhenDies$Tower" "wished" "[I"]
def wsX2_playLodger : List Cond := .code yX2_playLodger cX2_playLodger 7 (some .boolean) :: ((wsX2_playLodger_r1 ++ (wsX2_playLodger_r2 ++ wsX2_playLodger_r3)) ++ wsX20 ++ wsX30)
def wsX2_playWish : List Cond := .code yX2_playWish cX2_playWish 4 (some .boolean) :: ([.fieldLink RX2 72 "UpWhenDies$Tower" "wished" "[I", .methodLink RX2 56 yX2_digitAt, .instanceMethod yX2_digitAt, .selects RX2 yX2_digitAt yX2_digitAt, .initialized RX2, .code yX2_digitAt cX2_digitAt 2 (some .int), .methodLink RX2 19 yX2_letterAt, .instanceMethod yX2_letterAt, .selects RX2 yX2_letterAt yX2_letterAt, .code yX2_letterAt cX2_letterAt 2 (some .int), .fieldLink RX2 15 "UpWhenDies$Telling" "size" "I", .fieldLink RX2 9 "UpWhenDies$Telling" "letters" "[I", .methodLink RX2 69 yX3_isAlive, .instanceMethod yX3_isAlive, .selects RX3 yX3_isAlive yX3_isAlive, .initialized RX3, .code yX3_isAlive cX3_isAlive 2 (some .boolean), .fieldLink RX3 27 "UpWhenDies$Tower" "came" "I", .fieldLink RX3 18 "UpWhenDies$Tower" "floor" "[I"] ++ wsX30 ++ wsX20)
def wsX3_holds : List Cond := .code yX3_holds cX3_holds 2 (some .boolean) :: ([])
def wsX3_floorsOf : List Cond := .code yX3_floorsOf cX3_floorsOf 4 (some .int) :: ([.fieldLink RX3 18 "UpWhenDies$Tower" "floor" "[I", .methodLink RX3 68 yX3_holds, .static yX3_holds, .initialized RX3, .code yX3_holds cX3_holds 2 (some .boolean)] ++ wsX30)
def wsX3_living : List Cond := .code yX3_living cX3_living 3 (some .int) :: ([.methodLink RX3 38 yX3_isAlive, .instanceMethod yX3_isAlive, .selects RX3 yX3_isAlive yX3_isAlive, .initialized RX3, .code yX3_isAlive cX3_isAlive 2 (some .boolean), .fieldLink RX3 27 "UpWhenDies$Tower" "came" "I", .fieldLink RX3 18 "UpWhenDies$Tower" "floor" "[I"] ++ wsX30)
def wsJ6_bitCount_0f7a4 : List Cond := .code yJ6_bitCount_0f7a4 cJ6_bitCount_0f7a4 1 (some .int) :: ([.constant RJ6 265 (1431655765), .constant RJ6 266 (858993459), .constant RJ6 267 (252645135)])
def wsX3_floorsUp : List Cond := .code yX3_floorsUp cX3_floorsUp 3 (some .int) :: ([.fieldLink RX3 18 "UpWhenDies$Tower" "floor" "[I", .methodLink RX3 72 yX3_staysDown, .instanceMethod yX3_staysDown, .selects RX3 yX3_staysDown yX3_staysDown, .initialized RX3, .code yX3_staysDown cX3_staysDown 2 (some .boolean), .fieldLink RX3 9 "UpWhenDies$Tower" "kind" "[I", .methodLink RX3 75 yJ6_bitCount_0f7a4, .static yJ6_bitCount_0f7a4, .initialized RJ6, .code yJ6_bitCount_0f7a4 cJ6_bitCount_0f7a4 1 (some .int), .constant RJ6 265 (1431655765), .constant RJ6 266 (858993459), .constant RJ6 267 (252645135)] ++ wsX30)
def wsX3_passYear_r1 : List Cond := [Cond.fieldLink RX3 18 "UpWhenDies$Tower" "floor" "[I", Cond.fieldLink RX3 15 "UpWhenDies$Tower" "age" "[I", Cond.fieldLink RX3 31 "UpWhenDies$Tower" "yearNow" "I", Cond.methodLink RX3 80 yX3_floorsOf, Cond.instanceMethod yX3_floorsOf, Cond.selects RX3 yX3_floorsOf yX3_floorsOf, Cond.initialized RX3, Cond.code yX3_floorsOf cX3_floorsOf 4 (some .int), Cond.methodLink RX3 68 yX3_holds, Cond.static yX3_holds, Cond.code yX3_holds cX3_holds 2 (some .boolean), Cond.methodLink RX3 34 yX3_living, Cond.instanceMethod yX3_living, Cond.selects RX3 yX3_living yX3_living, Cond.code yX3_living cX3_living 3 (some .int), Cond.methodLink RX3 38 yX3_isAlive, Cond.instanceMethod yX3_isAlive, Cond.selects RX3 yX3_isAlive yX3_isAlive, Cond.code yX3_isAlive cX3_isAlive 2 (some .boolean), Cond.fieldLink RX3 27 "UpWhenDies$Tower" "came" "I", Cond.methodLink RX3 83 yX3_floorsUp, Cond.instanceMethod yX3_floorsUp, Cond.selects RX3 yX3_floorsUp yX3_floorsUp, Cond.code yX3_floorsUp cX3_floorsUp 3 (some .int)]
def wsX3_passYear_r2 : List Cond := [Cond.methodLink RX3 72 yX3_staysDown, Cond.instanceMethod yX3_staysDown, Cond.selects RX3 yX3_staysDown yX3_staysDown, Cond.code yX3_staysDown cX3_staysDown 2 (some .boolean), Cond.fieldLink RX3 9 "UpWhenDies$Tower" "kind" "[I", Cond.methodLink RX3 75 yJ6_bitCount_0f7a4, Cond.static yJ6_bitCount_0f7a4, Cond.initialized RJ6, Cond.code yJ6_bitCount_0f7a4 cJ6_bitCount_0f7a4 1 (some .int), Cond.constant RJ6 265 (1431655765), Cond.constant RJ6 266 (858993459), Cond.constant RJ6 267 (252645135), Cond.methodLink RX3 56 yX3_ageAfter, Cond.instanceMethod yX3_ageAfter, Cond.selects RX3 yX3_ageAfter yX3_ageAfter, Cond.code yX3_ageAfter cX3_ageAfter 3 (some .int), Cond.methodLink RX3 98 Lib.Math.min.name, Cond.static Lib.Math.min.name, Cond.initialized "java/lang/Math", Cond.code Lib.Math.min.name Lib.Math.min.code 2 (some .int)]
def wsX3_passYear : List Cond := .code yX3_passYear cX3_passYear 8 (some .int) :: ((wsX3_passYear_r1 ++ wsX3_passYear_r2) ++ wsX30)
def wsX2_playYear_r1 : List Cond := [Cond.fieldLink RX2 78 "UpWhenDies$Tower" "yearNow" "I", Cond.methodLink RX2 56 yX2_digitAt, Cond.instanceMethod yX2_digitAt, Cond.selects RX2 yX2_digitAt yX2_digitAt, Cond.initialized RX2, Cond.code yX2_digitAt cX2_digitAt 2 (some .int), Cond.methodLink RX2 19 yX2_letterAt, Cond.instanceMethod yX2_letterAt, Cond.selects RX2 yX2_letterAt yX2_letterAt, Cond.code yX2_letterAt cX2_letterAt 2 (some .int), Cond.fieldLink RX2 15 "UpWhenDies$Telling" "size" "I", Cond.fieldLink RX2 9 "UpWhenDies$Telling" "letters" "[I", Cond.methodLink RX2 69 yX3_isAlive, Cond.instanceMethod yX3_isAlive, Cond.selects RX3 yX3_isAlive yX3_isAlive, Cond.initialized RX3, Cond.code yX3_isAlive cX3_isAlive 2 (some .boolean), Cond.fieldLink RX3 27 "UpWhenDies$Tower" "came" "I", Cond.fieldLink RX3 18 "UpWhenDies$Tower" "floor" "[I", Cond.methodLink RX2 75 yX3_holds, Cond.static yX3_holds, Cond.code yX3_holds cX3_holds 2 (some .boolean), Cond.methodLink RX2 81 yX3_passYear, Cond.instanceMethod yX3_passYear]
def wsX2_playYear_r2 : List Cond := [Cond.selects RX3 yX3_passYear yX3_passYear, Cond.code yX3_passYear cX3_passYear 8 (some .int), Cond.fieldLink RX3 15 "UpWhenDies$Tower" "age" "[I", Cond.fieldLink RX3 31 "UpWhenDies$Tower" "yearNow" "I", Cond.methodLink RX3 80 yX3_floorsOf, Cond.instanceMethod yX3_floorsOf, Cond.selects RX3 yX3_floorsOf yX3_floorsOf, Cond.code yX3_floorsOf cX3_floorsOf 4 (some .int), Cond.methodLink RX3 68 yX3_holds, Cond.methodLink RX3 34 yX3_living, Cond.instanceMethod yX3_living, Cond.selects RX3 yX3_living yX3_living, Cond.code yX3_living cX3_living 3 (some .int), Cond.methodLink RX3 38 yX3_isAlive, Cond.methodLink RX3 83 yX3_floorsUp, Cond.instanceMethod yX3_floorsUp, Cond.selects RX3 yX3_floorsUp yX3_floorsUp, Cond.code yX3_floorsUp cX3_floorsUp 3 (some .int), Cond.methodLink RX3 72 yX3_staysDown, Cond.instanceMethod yX3_staysDown, Cond.selects RX3 yX3_staysDown yX3_staysDown, Cond.code yX3_staysDown cX3_staysDown 2 (some .boolean), Cond.fieldLink RX3 9 "UpWhenDies$Tower" "kind" "[I", Cond.methodLink RX3 75 yJ6_bitCount_0f7a4]
def wsX2_playYear_r3 : List Cond := [Cond.static yJ6_bitCount_0f7a4, Cond.initialized RJ6, Cond.code yJ6_bitCount_0f7a4 cJ6_bitCount_0f7a4 1 (some .int), Cond.constant RJ6 265 (1431655765), Cond.constant RJ6 266 (858993459), Cond.constant RJ6 267 (252645135), Cond.methodLink RX3 56 yX3_ageAfter, Cond.instanceMethod yX3_ageAfter, Cond.selects RX3 yX3_ageAfter yX3_ageAfter, Cond.code yX3_ageAfter cX3_ageAfter 3 (some .int), Cond.methodLink RX3 98 Lib.Math.min.name, Cond.static Lib.Math.min.name, Cond.initialized "java/lang/Math", Cond.code Lib.Math.min.name Lib.Math.min.code 2 (some .int)]
def wsX2_playYear : List Cond := .code yX2_playYear cX2_playYear 7 (some .boolean) :: ((wsX2_playYear_r1 ++ (wsX2_playYear_r2 ++ wsX2_playYear_r3)) ++ wsX30 ++ wsX20)
def wsX2_playOn_r1 : List Cond := [Cond.fieldLink RX2 15 "UpWhenDies$Telling" "size" "I", Cond.methodLink RX2 19 yX2_letterAt, Cond.instanceMethod yX2_letterAt, Cond.selects RX2 yX2_letterAt yX2_letterAt, Cond.initialized RX2, Cond.code yX2_letterAt cX2_letterAt 2 (some .int), Cond.fieldLink RX2 9 "UpWhenDies$Telling" "letters" "[I", Cond.methodLink RX2 27 yX2_playLodger, Cond.instanceMethod yX2_playLodger, Cond.selects RX2 yX2_playLodger yX2_playLodger, Cond.code yX2_playLodger cX2_playLodger 7 (some .boolean), Cond.methodLink RX2 41 yX0_ofLetter, Cond.static yX0_ofLetter, Cond.initialized RX0, Cond.code yX0_ofLetter cX0_ofLetter 1 (some .int), Cond.methodLink RX2 56 yX2_digitAt, Cond.instanceMethod yX2_digitAt, Cond.selects RX2 yX2_digitAt yX2_digitAt, Cond.code yX2_digitAt cX2_digitAt 2 (some .int), Cond.methodLink RX2 59 yX3_couldComeIn, Cond.instanceMethod yX3_couldComeIn, Cond.selects RX3 yX3_couldComeIn yX3_couldComeIn, Cond.initialized RX3, Cond.code yX3_couldComeIn cX3_couldComeIn 3 (some .boolean)]
def wsX2_playOn_r2 : List Cond := [Cond.methodLink RX3 42 yX3_isFull, Cond.instanceMethod yX3_isFull, Cond.selects RX3 yX3_isFull yX3_isFull, Cond.code yX3_isFull cX3_isFull 1 (some .boolean), Cond.fieldLink RX3 27 "UpWhenDies$Tower" "came" "I", Cond.methodLink RX3 46 yX0_entryFloor, Cond.static yX0_entryFloor, Cond.code yX0_entryFloor cX0_entryFloor 3 (some .int), Cond.methodLink RX0 11 Lib.Math.max.name, Cond.static Lib.Math.max.name, Cond.initialized "java/lang/Math", Cond.code Lib.Math.max.name Lib.Math.max.code 2 (some .int), Cond.methodLink RX3 52 yX3_whoLivesOn, Cond.instanceMethod yX3_whoLivesOn, Cond.selects RX3 yX3_whoLivesOn yX3_whoLivesOn, Cond.code yX3_whoLivesOn cX3_whoLivesOn 3 (some .int), Cond.fieldLink RX3 18 "UpWhenDies$Tower" "floor" "[I", Cond.methodLink RX3 38 yX3_isAlive, Cond.instanceMethod yX3_isAlive, Cond.selects RX3 yX3_isAlive yX3_isAlive, Cond.code yX3_isAlive cX3_isAlive 2 (some .boolean), Cond.methodLink RX2 65 yX3_admit, Cond.instanceMethod yX3_admit, Cond.selects RX3 yX3_admit yX3_admit]
def wsX2_playOn_r3 : List Cond := [Cond.code yX3_admit cX3_admit 5 (some .int), Cond.fieldLink RX3 9 "UpWhenDies$Tower" "kind" "[I", Cond.fieldLink RX3 15 "UpWhenDies$Tower" "age" "[I", Cond.fieldLink RX3 21 "UpWhenDies$Tower" "load" "[I", Cond.fieldLink RX3 24 "UpWhenDies$Tower" "wished" "[I", Cond.methodLink RX2 31 yX2_playWish, Cond.instanceMethod yX2_playWish, Cond.selects RX2 yX2_playWish yX2_playWish, Cond.code yX2_playWish cX2_playWish 4 (some .boolean), Cond.fieldLink RX2 72 "UpWhenDies$Tower" "wished" "[I", Cond.methodLink RX2 69 yX3_isAlive, Cond.methodLink RX2 35 yX2_playYear, Cond.instanceMethod yX2_playYear, Cond.selects RX2 yX2_playYear yX2_playYear, Cond.code yX2_playYear cX2_playYear 7 (some .boolean), Cond.fieldLink RX2 78 "UpWhenDies$Tower" "yearNow" "I", Cond.methodLink RX2 75 yX3_holds, Cond.static yX3_holds, Cond.code yX3_holds cX3_holds 2 (some .boolean), Cond.methodLink RX2 81 yX3_passYear, Cond.instanceMethod yX3_passYear, Cond.selects RX3 yX3_passYear yX3_passYear, Cond.code yX3_passYear cX3_passYear 8 (some .int), Cond.fieldLink RX3 31 "UpWhenDies$Tower" "yearNow" "I"]
def wsX2_playOn_r4 : List Cond := [Cond.methodLink RX3 80 yX3_floorsOf, Cond.instanceMethod yX3_floorsOf, Cond.selects RX3 yX3_floorsOf yX3_floorsOf, Cond.code yX3_floorsOf cX3_floorsOf 4 (some .int), Cond.methodLink RX3 68 yX3_holds, Cond.methodLink RX3 34 yX3_living, Cond.instanceMethod yX3_living, Cond.selects RX3 yX3_living yX3_living, Cond.code yX3_living cX3_living 3 (some .int), Cond.methodLink RX3 83 yX3_floorsUp, Cond.instanceMethod yX3_floorsUp, Cond.selects RX3 yX3_floorsUp yX3_floorsUp, Cond.code yX3_floorsUp cX3_floorsUp 3 (some .int), Cond.methodLink RX3 72 yX3_staysDown, Cond.instanceMethod yX3_staysDown, Cond.selects RX3 yX3_staysDown yX3_staysDown, Cond.code yX3_staysDown cX3_staysDown 2 (some .boolean), Cond.methodLink RX3 75 yJ6_bitCount_0f7a4, Cond.static yJ6_bitCount_0f7a4, Cond.initialized RJ6, Cond.code yJ6_bitCount_0f7a4 cJ6_bitCount_0f7a4 1 (some .int), Cond.constant RJ6 265 (1431655765), Cond.constant RJ6 266 (858993459), Cond.constant RJ6 267 (252645135)]
def wsX2_playOn_r5 : List Cond := [Cond.methodLink RX3 56 yX3_ageAfter, Cond.instanceMethod yX3_ageAfter, Cond.selects RX3 yX3_ageAfter yX3_ageAfter, Cond.code yX3_ageAfter cX3_ageAfter 3 (some .int), Cond.methodLink RX3 98 Lib.Math.min.name, Cond.static Lib.Math.min.name, Cond.code Lib.Math.min.name Lib.Math.min.code 2 (some .int)]
def wsX2_playOn : List Cond := .code yX2_playOn cX2_playOn 5 (some .int) :: ((wsX2_playOn_r1 ++ (wsX2_playOn_r2 ++ (wsX2_playOn_r3 ++ (wsX2_playOn_r4 ++ wsX2_playOn_r5)))) ++ wsX20 ++ wsX30)
def wsX3_init : List Cond := .code yX3_init cX3_init 1 none :: ([.methodLink RX3 3 objectInit, .instanceMethod objectInit, .code objectInit ⟨#[0xb1]⟩ 1 none, .arrayClass .int, .fieldLink RX3 9 "UpWhenDies$Tower" "kind" "[I", .fieldLink RX3 15 "UpWhenDies$Tower" "age" "[I", .fieldLink RX3 18 "UpWhenDies$Tower" "floor" "[I", .fieldLink RX3 21 "UpWhenDies$Tower" "load" "[I", .fieldLink RX3 24 "UpWhenDies$Tower" "wished" "[I"] ++ wsX30)
def wsX3_becomeLike : List Cond := .code yX3_becomeLike cX3_becomeLike 3 none :: ([.fieldLink RX3 9 "UpWhenDies$Tower" "kind" "[I", .fieldLink RX3 15 "UpWhenDies$Tower" "age" "[I", .fieldLink RX3 18 "UpWhenDies$Tower" "floor" "[I", .fieldLink RX3 21 "UpWhenDies$Tower" "load" "[I", .fieldLink RX3 24 "UpWhenDies$Tower" "wished" "[I", .fieldLink RX3 27 "UpWhenDies$Tower" "came" "I", .fieldLink RX3 31 "UpWhenDies$Tower" "yearNow" "I"] ++ wsX30)
def wsX3_areAlive : List Cond := .code yX3_areAlive cX3_areAlive 2 (some .boolean) :: ([.methodLink RX3 34 yX3_living, .instanceMethod yX3_living, .selects RX3 yX3_living yX3_living, .initialized RX3, .code yX3_living cX3_living 3 (some .int), .methodLink RX3 38 yX3_isAlive, .instanceMethod yX3_isAlive, .selects RX3 yX3_isAlive yX3_isAlive, .code yX3_isAlive cX3_isAlive 2 (some .boolean), .fieldLink RX3 27 "UpWhenDies$Tower" "came" "I", .fieldLink RX3 18 "UpWhenDies$Tower" "floor" "[I"] ++ wsX30)
def wsX3_sumOfLiving : List Cond := .code yX3_sumOfLiving cX3_sumOfLiving 4 (some .int) :: ([.methodLink RX3 38 yX3_isAlive, .instanceMethod yX3_isAlive, .selects RX3 yX3_isAlive yX3_isAlive, .initialized RX3, .code yX3_isAlive cX3_isAlive 2 (some .boolean), .fieldLink RX3 27 "UpWhenDies$Tower" "came" "I", .fieldLink RX3 18 "UpWhenDies$Tower" "floor" "[I"] ++ wsX30)
def wsX3_wishTold : List Cond := .code yX3_wishTold cX3_wishTold 2 (some .int) :: ([.fieldLink RX3 24 "UpWhenDies$Tower" "wished" "[I"] ++ wsX30)
def wsX3_climbAfter : List Cond := .code yX3_climbAfter cX3_climbAfter 3 (some .int) :: ([.fieldLink RX3 9 "UpWhenDies$Tower" "kind" "[I", .methodLink RX3 56 yX3_ageAfter, .instanceMethod yX3_ageAfter, .selects RX3 yX3_ageAfter yX3_ageAfter, .initialized RX3, .code yX3_ageAfter cX3_ageAfter 3 (some .int), .fieldLink RX3 15 "UpWhenDies$Tower" "age" "[I", .methodLink RX3 98 Lib.Math.min.name, .static Lib.Math.min.name, .initialized "java/lang/Math", .code Lib.Math.min.name Lib.Math.min.code 2 (some .int), .methodLink RX3 62 yX0_climb, .static yX0_climb, .initialized RX0, .code yX0_climb cX0_climb 3 (some .int), .methodLink RX0 24 Lib.Math.min.name] ++ wsX30)
def wsX3_isOutOfReach : List Cond := .code yX3_isOutOfReach cX3_isOutOfReach 3 (some .boolean) :: ([.fieldLink RX3 18 "UpWhenDies$Tower" "floor" "[I", .methodLink RX3 65 yX3_climbAfter, .instanceMethod yX3_climbAfter, .selects RX3 yX3_climbAfter yX3_climbAfter, .initialized RX3, .code yX3_climbAfter cX3_climbAfter 3 (some .int), .fieldLink RX3 9 "UpWhenDies$Tower" "kind" "[I", .methodLink RX3 56 yX3_ageAfter, .instanceMethod yX3_ageAfter, .selects RX3 yX3_ageAfter yX3_ageAfter, .code yX3_ageAfter cX3_ageAfter 3 (some .int), .fieldLink RX3 15 "UpWhenDies$Tower" "age" "[I", .methodLink RX3 98 Lib.Math.min.name, .static Lib.Math.min.name, .initialized "java/lang/Math", .code Lib.Math.min.name Lib.Math.min.code 2 (some .int), .methodLink RX3 62 yX0_climb, .static yX0_climb, .initialized RX0, .code yX0_climb cX0_climb 3 (some .int), .methodLink RX0 24 Lib.Math.min.name] ++ wsX30)
def wsX3_burden_r1 : List Cond := [Cond.fieldLink RX3 21 "UpWhenDies$Tower" "load" "[I", Cond.methodLink RX3 80 yX3_floorsOf, Cond.instanceMethod yX3_floorsOf, Cond.selects RX3 yX3_floorsOf yX3_floorsOf, Cond.initialized RX3, Cond.code yX3_floorsOf cX3_floorsOf 4 (some .int), Cond.fieldLink RX3 18 "UpWhenDies$Tower" "floor" "[I", Cond.methodLink RX3 68 yX3_holds, Cond.static yX3_holds, Cond.code yX3_holds cX3_holds 2 (some .boolean), Cond.methodLink RX3 38 yX3_isAlive, Cond.instanceMethod yX3_isAlive, Cond.selects RX3 yX3_isAlive yX3_isAlive, Cond.code yX3_isAlive cX3_isAlive 2 (some .boolean), Cond.fieldLink RX3 27 "UpWhenDies$Tower" "came" "I", Cond.methodLink RX3 83 yX3_floorsUp, Cond.instanceMethod yX3_floorsUp, Cond.selects RX3 yX3_floorsUp yX3_floorsUp, Cond.code yX3_floorsUp cX3_floorsUp 3 (some .int), Cond.methodLink RX3 72 yX3_staysDown, Cond.instanceMethod yX3_staysDown, Cond.selects RX3 yX3_staysDown yX3_staysDown, Cond.code yX3_staysDown cX3_staysDown 2 (some .boolean), Cond.fieldLink RX3 9 "UpWhenDies$Tower" "kind" "[I"]
def wsX3_burden_r2 : List Cond := [Cond.methodLink RX3 75 yJ6_bitCount_0f7a4, Cond.static yJ6_bitCount_0f7a4, Cond.initialized RJ6, Cond.code yJ6_bitCount_0f7a4 cJ6_bitCount_0f7a4 1 (some .int), Cond.constant RJ6 265 (1431655765), Cond.constant RJ6 266 (858993459), Cond.constant RJ6 267 (252645135)]
def wsX3_burden : List Cond := .code yX3_burden cX3_burden 5 (some .int) :: ((wsX3_burden_r1 ++ wsX3_burden_r2) ++ wsX30)
def wsX3_likeliestAbove_r1 : List Cond := [Cond.fieldLink RX3 18 "UpWhenDies$Tower" "floor" "[I", Cond.methodLink RX3 38 yX3_isAlive, Cond.instanceMethod yX3_isAlive, Cond.selects RX3 yX3_isAlive yX3_isAlive, Cond.initialized RX3, Cond.code yX3_isAlive cX3_isAlive 2 (some .boolean), Cond.fieldLink RX3 27 "UpWhenDies$Tower" "came" "I", Cond.methodLink RX3 68 yX3_holds, Cond.static yX3_holds, Cond.code yX3_holds cX3_holds 2 (some .boolean), Cond.methodLink RX3 86 yX3_chanceAfter, Cond.instanceMethod yX3_chanceAfter, Cond.selects RX3 yX3_chanceAfter yX3_chanceAfter, Cond.code yX3_chanceAfter cX3_chanceAfter 3 (some .int), Cond.fieldLink RX3 9 "UpWhenDies$Tower" "kind" "[I", Cond.methodLink RX3 56 yX3_ageAfter, Cond.instanceMethod yX3_ageAfter, Cond.selects RX3 yX3_ageAfter yX3_ageAfter, Cond.code yX3_ageAfter cX3_ageAfter 3 (some .int), Cond.fieldLink RX3 15 "UpWhenDies$Tower" "age" "[I", Cond.methodLink RX3 98 Lib.Math.min.name, Cond.static Lib.Math.min.name, Cond.initialized "java/lang/Math", Cond.code Lib.Math.min.name Lib.Math.min.code 2 (some .int)]
def wsX3_likeliestAbove_r2 : List Cond := [Cond.methodLink RX3 59 yX0_chance, Cond.static yX0_chance, Cond.initialized RX0, Cond.code yX0_chance cX0_chance 3 (some .int), Cond.methodLink RX0 11 Lib.Math.max.name, Cond.static Lib.Math.max.name, Cond.code Lib.Math.max.name Lib.Math.max.code 2 (some .int), Cond.methodLink RX0 17 yX0_strongChance, Cond.static yX0_strongChance, Cond.code yX0_strongChance cX0_strongChance 1 (some .int), Cond.methodLink RX0 21 yX0_illChance, Cond.static yX0_illChance, Cond.code yX0_illChance cX0_illChance 1 (some .int), Cond.methodLink RX0 24 Lib.Math.min.name]
def wsX3_likeliestAbove : List Cond := .code yX3_likeliestAbove cX3_likeliestAbove 7 (some .int) :: ((wsX3_likeliestAbove_r1 ++ wsX3_likeliestAbove_r2) ++ wsX30)
def wsX3_isInRing : List Cond := .code yX3_isInRing cX3_isInRing 4 (some .boolean) :: ([.fieldLink RX3 24 "UpWhenDies$Tower" "wished" "[I", .methodLink RX3 52 yX3_whoLivesOn, .instanceMethod yX3_whoLivesOn, .selects RX3 yX3_whoLivesOn yX3_whoLivesOn, .initialized RX3, .code yX3_whoLivesOn cX3_whoLivesOn 3 (some .int), .fieldLink RX3 18 "UpWhenDies$Tower" "floor" "[I", .methodLink RX3 38 yX3_isAlive, .instanceMethod yX3_isAlive, .selects RX3 yX3_isAlive yX3_isAlive, .code yX3_isAlive cX3_isAlive 2 (some .boolean), .fieldLink RX3 27 "UpWhenDies$Tower" "came" "I"] ++ wsX30)
def wsX3_inRings : List Cond := .code yX3_inRings cX3_inRings 3 (some .int) :: ([.methodLink RX3 38 yX3_isAlive, .instanceMethod yX3_isAlive, .selects RX3 yX3_isAlive yX3_isAlive, .initialized RX3, .code yX3_isAlive cX3_isAlive 2 (some .boolean), .fieldLink RX3 27 "UpWhenDies$Tower" "came" "I", .fieldLink RX3 18 "UpWhenDies$Tower" "floor" "[I", .methodLink RX3 89 yX3_isInRing, .instanceMethod yX3_isInRing, .selects RX3 yX3_isInRing yX3_isInRing, .code yX3_isInRing cX3_isInRing 4 (some .boolean), .fieldLink RX3 24 "UpWhenDies$Tower" "wished" "[I", .methodLink RX3 52 yX3_whoLivesOn, .instanceMethod yX3_whoLivesOn, .selects RX3 yX3_whoLivesOn yX3_whoLivesOn, .code yX3_whoLivesOn cX3_whoLivesOn 3 (some .int)] ++ wsX30)
def wsX3_changeRings : List Cond := .code yX3_changeRings cX3_changeRings 4 (some .int) :: ([.fieldLink RX3 18 "UpWhenDies$Tower" "floor" "[I", .fieldLink RX3 24 "UpWhenDies$Tower" "wished" "[I", .methodLink RX3 92 yX3_inRings, .instanceMethod yX3_inRings, .selects RX3 yX3_inRings yX3_inRings, .initialized RX3, .code yX3_inRings cX3_inRings 3 (some .int), .methodLink RX3 38 yX3_isAlive, .instanceMethod yX3_isAlive, .selects RX3 yX3_isAlive yX3_isAlive, .code yX3_isAlive cX3_isAlive 2 (some .boolean), .fieldLink RX3 27 "UpWhenDies$Tower" "came" "I", .methodLink RX3 89 yX3_isInRing, .instanceMethod yX3_isInRing, .selects RX3 yX3_isInRing yX3_isInRing, .code yX3_isInRing cX3_isInRing 4 (some .boolean), .methodLink RX3 52 yX3_whoLivesOn, .instanceMethod yX3_whoLivesOn, .selects RX3 yX3_whoLivesOn yX3_whoLivesOn, .code yX3_whoLivesOn cX3_whoLivesOn 3 (some .int), .methodLink RX3 68 yX3_holds, .static yX3_holds, .code yX3_holds cX3_holds 2 (some .boolean)] ++ wsX30)
def wsX3_livingByLot_r1 : List Cond := [Cond.constant RX3 95 (1664525), Cond.constant RX3 96 (1013904223), Cond.constant RX3 97 (2147483647), Cond.methodLink RX3 34 yX3_living, Cond.instanceMethod yX3_living, Cond.selects RX3 yX3_living yX3_living, Cond.initialized RX3, Cond.code yX3_living cX3_living 3 (some .int), Cond.methodLink RX3 38 yX3_isAlive, Cond.instanceMethod yX3_isAlive, Cond.selects RX3 yX3_isAlive yX3_isAlive, Cond.code yX3_isAlive cX3_isAlive 2 (some .boolean), Cond.fieldLink RX3 27 "UpWhenDies$Tower" "came" "I", Cond.fieldLink RX3 18 "UpWhenDies$Tower" "floor" "[I", Cond.methodLink RX3 68 yX3_holds, Cond.static yX3_holds, Cond.code yX3_holds cX3_holds 2 (some .boolean), Cond.methodLink RX3 86 yX3_chanceAfter, Cond.instanceMethod yX3_chanceAfter, Cond.selects RX3 yX3_chanceAfter yX3_chanceAfter, Cond.code yX3_chanceAfter cX3_chanceAfter 3 (some .int), Cond.fieldLink RX3 9 "UpWhenDies$Tower" "kind" "[I", Cond.methodLink RX3 56 yX3_ageAfter, Cond.instanceMethod yX3_ageAfter]
def wsX3_livingByLot_r2 : List Cond := [Cond.selects RX3 yX3_ageAfter yX3_ageAfter, Cond.code yX3_ageAfter cX3_ageAfter 3 (some .int), Cond.fieldLink RX3 15 "UpWhenDies$Tower" "age" "[I", Cond.methodLink RX3 98 Lib.Math.min.name, Cond.static Lib.Math.min.name, Cond.initialized "java/lang/Math", Cond.code Lib.Math.min.name Lib.Math.min.code 2 (some .int), Cond.methodLink RX3 59 yX0_chance, Cond.static yX0_chance, Cond.initialized RX0, Cond.code yX0_chance cX0_chance 3 (some .int), Cond.methodLink RX0 11 Lib.Math.max.name, Cond.static Lib.Math.max.name, Cond.code Lib.Math.max.name Lib.Math.max.code 2 (some .int), Cond.methodLink RX0 17 yX0_strongChance, Cond.static yX0_strongChance, Cond.code yX0_strongChance cX0_strongChance 1 (some .int), Cond.methodLink RX0 21 yX0_illChance, Cond.static yX0_illChance, Cond.code yX0_illChance cX0_illChance 1 (some .int), Cond.methodLink RX0 24 Lib.Math.min.name]
def wsX3_livingByLot : List Cond := .code yX3_livingByLot cX3_livingByLot 8 (some .int) :: ((wsX3_livingByLot_r1 ++ wsX3_livingByLot_r2) ++ wsX30)
def wsX4_init_r1 : List Cond := [Cond.methodLink RX4 1 objectInit, Cond.instanceMethod objectInit, Cond.code objectInit ⟨#[0xb1]⟩ 1 none, Cond.classLink RX4 7 RX3, Cond.instantiable RX3 7, Cond.initialized RX3, Cond.fieldLink RX4 10 "UpWhenDies" "now" "LUpWhenDies$Tower;", Cond.fieldLink RX4 16 "UpWhenDies" "trial" "LUpWhenDies$Tower;", Cond.fieldLink RX4 19 "UpWhenDies" "kept" "LUpWhenDies$Tower;", Cond.classLink RX4 22 RX2, Cond.instantiable RX2 2, Cond.initialized RX2, Cond.fieldLink RX4 25 "UpWhenDies" "telling" "LUpWhenDies$Telling;", Cond.classLink RX4 29 RX1, Cond.instantiable RX1 3, Cond.initialized RX1, Cond.fieldLink RX4 32 "UpWhenDies" "odds" "LUpWhenDies$Odds;", Cond.arrayClass .int, Cond.fieldLink RX4 36 "UpWhenDies" "told" "[I", Cond.fieldLink RX4 40 "UpWhenDies" "refused" "[I", Cond.instanceMethod yX3_init, Cond.code yX3_init cX3_init 1 none, Cond.methodLink RX3 3 objectInit, Cond.fieldLink RX3 9 "UpWhenDies$Tower" "kind" "[I"]
def wsX4_init_r2 : List Cond := [Cond.fieldLink RX3 15 "UpWhenDies$Tower" "age" "[I", Cond.fieldLink RX3 18 "UpWhenDies$Tower" "floor" "[I", Cond.fieldLink RX3 21 "UpWhenDies$Tower" "load" "[I", Cond.fieldLink RX3 24 "UpWhenDies$Tower" "wished" "[I", Cond.instanceMethod yX2_init, Cond.code yX2_init cX2_init 1 none, Cond.methodLink RX2 3 objectInit, Cond.fieldLink RX2 9 "UpWhenDies$Telling" "letters" "[I", Cond.instanceMethod yX1_init, Cond.code yX1_init cX1_init 1 none, Cond.methodLink RX1 3 objectInit, Cond.arrayClass .long, Cond.fieldLink RX1 9 "UpWhenDies$Odds" "byDeaths" "[J"]
def wsX4_init : List Cond := .code yX4_init cX4_init 1 none :: ((wsX4_init_r1 ++ wsX4_init_r2) ++ wsX30 ++ wsX40 ++ wsX20 ++ wsX10)
def wsX4_refuse : List Cond := .code yX4_refuse cX4_refuse 3 (some .int) :: ([.fieldLink RX4 40 "UpWhenDies" "refused" "[I"] ++ wsX40)
def wsX4_letter : List Cond := .code yX4_letter cX4_letter 2 (some .int) :: ([.fieldLink RX4 25 "UpWhenDies" "telling" "LUpWhenDies$Telling;", .methodLink RX4 43 yX4_refuse, .instanceMethod yX4_refuse, .selects RX4 yX4_refuse yX4_refuse, .initialized RX4, .code yX4_refuse cX4_refuse 3 (some .int), .fieldLink RX4 40 "UpWhenDies" "refused" "[I", .methodLink RX4 47 yX2_isFull, .instanceMethod yX2_isFull, .selects RX2 yX2_isFull yX2_isFull, .initialized RX2, .code yX2_isFull cX2_isFull 1 (some .boolean), .fieldLink RX2 15 "UpWhenDies$Telling" "size" "I", .methodLink RX4 51 yX2_add, .instanceMethod yX2_add, .selects RX2 yX2_add yX2_add, .code yX2_add cX2_add 2 (some .int), .fieldLink RX2 9 "UpWhenDies$Telling" "letters" "[I"] ++ wsX40 ++ wsX20)
def wsX4_takeHouse_r1 : List Cond := [Cond.fieldLink RX4 25 "UpWhenDies" "telling" "LUpWhenDies$Telling;", Cond.fieldLink RX4 16 "UpWhenDies" "trial" "LUpWhenDies$Tower;", Cond.fieldLink RX4 10 "UpWhenDies" "now" "LUpWhenDies$Tower;", Cond.methodLink RX4 197 yX2_firstMisfit, Cond.instanceMethod yX2_firstMisfit, Cond.selects RX2 yX2_firstMisfit yX2_firstMisfit, Cond.initialized RX2, Cond.code yX2_firstMisfit cX2_firstMisfit 3 (some .int), Cond.fieldLink RX2 15 "UpWhenDies$Telling" "size" "I", Cond.methodLink RX2 19 yX2_letterAt, Cond.instanceMethod yX2_letterAt, Cond.selects RX2 yX2_letterAt yX2_letterAt, Cond.code yX2_letterAt cX2_letterAt 2 (some .int), Cond.fieldLink RX2 9 "UpWhenDies$Telling" "letters" "[I", Cond.methodLink RX2 23 yX2_behind, Cond.static yX2_behind, Cond.code yX2_behind cX2_behind 2 (some .int), Cond.methodLink RX2 38 yX2_behindStart, Cond.static yX2_behindStart, Cond.code yX2_behindStart cX2_behindStart 1 (some .int), Cond.methodLink RX2 41 yX0_ofLetter, Cond.static yX0_ofLetter, Cond.initialized RX0, Cond.code yX0_ofLetter cX0_ofLetter 1 (some .int)]
def wsX4_takeHouse_r2 : List Cond := [Cond.methodLink RX2 46 yX2_isDigit, Cond.static yX2_isDigit, Cond.code yX2_isDigit cX2_isDigit 1 (some .boolean), Cond.methodLink RX2 50 yX2_behindAge, Cond.static yX2_behindAge, Cond.code yX2_behindAge cX2_behindAge 1 (some .int), Cond.methodLink RX2 53 yX2_behindDead, Cond.static yX2_behindDead, Cond.code yX2_behindDead cX2_behindDead 2 (some .int), Cond.methodLink RX4 177 yX3_becomeLike, Cond.instanceMethod yX3_becomeLike, Cond.selects RX3 yX3_becomeLike yX3_becomeLike, Cond.initialized RX3, Cond.code yX3_becomeLike cX3_becomeLike 3 none, Cond.fieldLink RX3 9 "UpWhenDies$Tower" "kind" "[I", Cond.fieldLink RX3 15 "UpWhenDies$Tower" "age" "[I", Cond.fieldLink RX3 18 "UpWhenDies$Tower" "floor" "[I", Cond.fieldLink RX3 21 "UpWhenDies$Tower" "load" "[I", Cond.fieldLink RX3 24 "UpWhenDies$Tower" "wished" "[I", Cond.fieldLink RX3 27 "UpWhenDies$Tower" "came" "I", Cond.fieldLink RX3 31 "UpWhenDies$Tower" "yearNow" "I", Cond.methodLink RX4 200 yX2_playOn, Cond.instanceMethod yX2_playOn, Cond.selects RX2 yX2_playOn yX2_playOn]
def wsX4_takeHouse_r3 : List Cond := [Cond.code yX2_playOn cX2_playOn 5 (some .int), Cond.methodLink RX2 27 yX2_playLodger, Cond.instanceMethod yX2_playLodger, Cond.selects RX2 yX2_playLodger yX2_playLodger, Cond.code yX2_playLodger cX2_playLodger 7 (some .boolean), Cond.methodLink RX2 56 yX2_digitAt, Cond.instanceMethod yX2_digitAt, Cond.selects RX2 yX2_digitAt yX2_digitAt, Cond.code yX2_digitAt cX2_digitAt 2 (some .int), Cond.methodLink RX2 59 yX3_couldComeIn, Cond.instanceMethod yX3_couldComeIn, Cond.selects RX3 yX3_couldComeIn yX3_couldComeIn, Cond.code yX3_couldComeIn cX3_couldComeIn 3 (some .boolean), Cond.methodLink RX3 42 yX3_isFull, Cond.instanceMethod yX3_isFull, Cond.selects RX3 yX3_isFull yX3_isFull, Cond.code yX3_isFull cX3_isFull 1 (some .boolean), Cond.methodLink RX3 46 yX0_entryFloor, Cond.static yX0_entryFloor, Cond.code yX0_entryFloor cX0_entryFloor 3 (some .int), Cond.methodLink RX0 11 Lib.Math.max.name, Cond.static Lib.Math.max.name, Cond.initialized "java/lang/Math", Cond.code Lib.Math.max.name Lib.Math.max.code 2 (some .int)]
def wsX4_takeHouse_r4 : List Cond := [Cond.methodLink RX3 52 yX3_whoLivesOn, Cond.instanceMethod yX3_whoLivesOn, Cond.selects RX3 yX3_whoLivesOn yX3_whoLivesOn, Cond.code yX3_whoLivesOn cX3_whoLivesOn 3 (some .int), Cond.methodLink RX3 38 yX3_isAlive, Cond.instanceMethod yX3_isAlive, Cond.selects RX3 yX3_isAlive yX3_isAlive, Cond.code yX3_isAlive cX3_isAlive 2 (some .boolean), Cond.methodLink RX2 65 yX3_admit, Cond.instanceMethod yX3_admit, Cond.selects RX3 yX3_admit yX3_admit, Cond.code yX3_admit cX3_admit 5 (some .int), Cond.methodLink RX2 31 yX2_playWish, Cond.instanceMethod yX2_playWish, Cond.selects RX2 yX2_playWish yX2_playWish, Cond.code yX2_playWish cX2_playWish 4 (some .boolean), Cond.fieldLink RX2 72 "UpWhenDies$Tower" "wished" "[I", Cond.methodLink RX2 69 yX3_isAlive, Cond.methodLink RX2 35 yX2_playYear, Cond.instanceMethod yX2_playYear, Cond.selects RX2 yX2_playYear yX2_playYear, Cond.code yX2_playYear cX2_playYear 7 (some .boolean), Cond.fieldLink RX2 78 "UpWhenDies$Tower" "yearNow" "I", Cond.methodLink RX2 75 yX3_holds]
def wsX4_takeHouse_r5 : List Cond := [Cond.static yX3_holds, Cond.code yX3_holds cX3_holds 2 (some .boolean), Cond.methodLink RX2 81 yX3_passYear, Cond.instanceMethod yX3_passYear, Cond.selects RX3 yX3_passYear yX3_passYear, Cond.code yX3_passYear cX3_passYear 8 (some .int), Cond.methodLink RX3 80 yX3_floorsOf, Cond.instanceMethod yX3_floorsOf, Cond.selects RX3 yX3_floorsOf yX3_floorsOf, Cond.code yX3_floorsOf cX3_floorsOf 4 (some .int), Cond.methodLink RX3 68 yX3_holds, Cond.methodLink RX3 34 yX3_living, Cond.instanceMethod yX3_living, Cond.selects RX3 yX3_living yX3_living, Cond.code yX3_living cX3_living 3 (some .int), Cond.methodLink RX3 83 yX3_floorsUp, Cond.instanceMethod yX3_floorsUp, Cond.selects RX3 yX3_floorsUp yX3_floorsUp, Cond.code yX3_floorsUp cX3_floorsUp 3 (some .int), Cond.methodLink RX3 72 yX3_staysDown, Cond.instanceMethod yX3_staysDown, Cond.selects RX3 yX3_staysDown yX3_staysDown, Cond.code yX3_staysDown cX3_staysDown 2 (some .boolean), Cond.methodLink RX3 75 yJ6_bitCount_0f7a4]
def wsX4_takeHouse_r6 : List Cond := [Cond.static yJ6_bitCount_0f7a4, Cond.initialized RJ6, Cond.code yJ6_bitCount_0f7a4 cJ6_bitCount_0f7a4 1 (some .int), Cond.constant RJ6 265 (1431655765), Cond.constant RJ6 266 (858993459), Cond.constant RJ6 267 (252645135), Cond.methodLink RX3 56 yX3_ageAfter, Cond.instanceMethod yX3_ageAfter, Cond.selects RX3 yX3_ageAfter yX3_ageAfter, Cond.code yX3_ageAfter cX3_ageAfter 3 (some .int), Cond.methodLink RX3 98 Lib.Math.min.name, Cond.static Lib.Math.min.name, Cond.code Lib.Math.min.name Lib.Math.min.code 2 (some .int), Cond.methodLink RX4 204 yX2_statements, Cond.instanceMethod yX2_statements, Cond.selects RX2 yX2_statements yX2_statements, Cond.code yX2_statements cX2_statements 3 (some .int)]
def wsX4_takeHouse : List Cond := .code yX4_takeHouse cX4_takeHouse 2 (some .int) :: ((wsX4_takeHouse_r1 ++ (wsX4_takeHouse_r2 ++ (wsX4_takeHouse_r3 ++ (wsX4_takeHouse_r4 ++ (wsX4_takeHouse_r5 ++ wsX4_takeHouse_r6))))) ++ wsX40 ++ wsX20 ++ wsX30)
def wsX4_house_r1 : List Cond := [Cond.fieldLink RX4 25 "UpWhenDies" "telling" "LUpWhenDies$Telling;", Cond.methodLink RX4 54 yX4_takeHouse, Cond.instanceMethod yX4_takeHouse, Cond.selects RX4 yX4_takeHouse yX4_takeHouse, Cond.initialized RX4, Cond.code yX4_takeHouse cX4_takeHouse 2 (some .int), Cond.fieldLink RX4 16 "UpWhenDies" "trial" "LUpWhenDies$Tower;", Cond.fieldLink RX4 10 "UpWhenDies" "now" "LUpWhenDies$Tower;", Cond.methodLink RX4 197 yX2_firstMisfit, Cond.instanceMethod yX2_firstMisfit, Cond.selects RX2 yX2_firstMisfit yX2_firstMisfit, Cond.initialized RX2, Cond.code yX2_firstMisfit cX2_firstMisfit 3 (some .int), Cond.fieldLink RX2 15 "UpWhenDies$Telling" "size" "I", Cond.methodLink RX2 19 yX2_letterAt, Cond.instanceMethod yX2_letterAt, Cond.selects RX2 yX2_letterAt yX2_letterAt, Cond.code yX2_letterAt cX2_letterAt 2 (some .int), Cond.fieldLink RX2 9 "UpWhenDies$Telling" "letters" "[I", Cond.methodLink RX2 23 yX2_behind, Cond.static yX2_behind, Cond.code yX2_behind cX2_behind 2 (some .int), Cond.methodLink RX2 38 yX2_behindStart, Cond.static yX2_behindStart]
def wsX4_house_r2 : List Cond := [Cond.code yX2_behindStart cX2_behindStart 1 (some .int), Cond.methodLink RX2 41 yX0_ofLetter, Cond.static yX0_ofLetter, Cond.initialized RX0, Cond.code yX0_ofLetter cX0_ofLetter 1 (some .int), Cond.methodLink RX2 46 yX2_isDigit, Cond.static yX2_isDigit, Cond.code yX2_isDigit cX2_isDigit 1 (some .boolean), Cond.methodLink RX2 50 yX2_behindAge, Cond.static yX2_behindAge, Cond.code yX2_behindAge cX2_behindAge 1 (some .int), Cond.methodLink RX2 53 yX2_behindDead, Cond.static yX2_behindDead, Cond.code yX2_behindDead cX2_behindDead 2 (some .int), Cond.methodLink RX4 177 yX3_becomeLike, Cond.instanceMethod yX3_becomeLike, Cond.selects RX3 yX3_becomeLike yX3_becomeLike, Cond.initialized RX3, Cond.code yX3_becomeLike cX3_becomeLike 3 none, Cond.fieldLink RX3 9 "UpWhenDies$Tower" "kind" "[I", Cond.fieldLink RX3 15 "UpWhenDies$Tower" "age" "[I", Cond.fieldLink RX3 18 "UpWhenDies$Tower" "floor" "[I", Cond.fieldLink RX3 21 "UpWhenDies$Tower" "load" "[I", Cond.fieldLink RX3 24 "UpWhenDies$Tower" "wished" "[I"]
def wsX4_house_r3 : List Cond := [Cond.fieldLink RX3 27 "UpWhenDies$Tower" "came" "I", Cond.fieldLink RX3 31 "UpWhenDies$Tower" "yearNow" "I", Cond.methodLink RX4 200 yX2_playOn, Cond.instanceMethod yX2_playOn, Cond.selects RX2 yX2_playOn yX2_playOn, Cond.code yX2_playOn cX2_playOn 5 (some .int), Cond.methodLink RX2 27 yX2_playLodger, Cond.instanceMethod yX2_playLodger, Cond.selects RX2 yX2_playLodger yX2_playLodger, Cond.code yX2_playLodger cX2_playLodger 7 (some .boolean), Cond.methodLink RX2 56 yX2_digitAt, Cond.instanceMethod yX2_digitAt, Cond.selects RX2 yX2_digitAt yX2_digitAt, Cond.code yX2_digitAt cX2_digitAt 2 (some .int), Cond.methodLink RX2 59 yX3_couldComeIn, Cond.instanceMethod yX3_couldComeIn, Cond.selects RX3 yX3_couldComeIn yX3_couldComeIn, Cond.code yX3_couldComeIn cX3_couldComeIn 3 (some .boolean), Cond.methodLink RX3 42 yX3_isFull, Cond.instanceMethod yX3_isFull, Cond.selects RX3 yX3_isFull yX3_isFull, Cond.code yX3_isFull cX3_isFull 1 (some .boolean), Cond.methodLink RX3 46 yX0_entryFloor, Cond.static yX0_entryFloor]
def wsX4_house_r4 : List Cond := [Cond.code yX0_entryFloor cX0_entryFloor 3 (some .int), Cond.methodLink RX0 11 Lib.Math.max.name, Cond.static Lib.Math.max.name, Cond.initialized "java/lang/Math", Cond.code Lib.Math.max.name Lib.Math.max.code 2 (some .int), Cond.methodLink RX3 52 yX3_whoLivesOn, Cond.instanceMethod yX3_whoLivesOn, Cond.selects RX3 yX3_whoLivesOn yX3_whoLivesOn, Cond.code yX3_whoLivesOn cX3_whoLivesOn 3 (some .int), Cond.methodLink RX3 38 yX3_isAlive, Cond.instanceMethod yX3_isAlive, Cond.selects RX3 yX3_isAlive yX3_isAlive, Cond.code yX3_isAlive cX3_isAlive 2 (some .boolean), Cond.methodLink RX2 65 yX3_admit, Cond.instanceMethod yX3_admit, Cond.selects RX3 yX3_admit yX3_admit, Cond.code yX3_admit cX3_admit 5 (some .int), Cond.methodLink RX2 31 yX2_playWish, Cond.instanceMethod yX2_playWish, Cond.selects RX2 yX2_playWish yX2_playWish, Cond.code yX2_playWish cX2_playWish 4 (some .boolean), Cond.fieldLink RX2 72 "UpWhenDies$Tower" "wished" "[I", Cond.methodLink RX2 69 yX3_isAlive, Cond.methodLink RX2 35 yX2_playYear]
def wsX4_house_r5 : List Cond := [Cond.instanceMethod yX2_playYear, Cond.selects RX2 yX2_playYear yX2_playYear, Cond.code yX2_playYear cX2_playYear 7 (some .boolean), Cond.fieldLink RX2 78 "UpWhenDies$Tower" "yearNow" "I", Cond.methodLink RX2 75 yX3_holds, Cond.static yX3_holds, Cond.code yX3_holds cX3_holds 2 (some .boolean), Cond.methodLink RX2 81 yX3_passYear, Cond.instanceMethod yX3_passYear, Cond.selects RX3 yX3_passYear yX3_passYear, Cond.code yX3_passYear cX3_passYear 8 (some .int), Cond.methodLink RX3 80 yX3_floorsOf, Cond.instanceMethod yX3_floorsOf, Cond.selects RX3 yX3_floorsOf yX3_floorsOf, Cond.code yX3_floorsOf cX3_floorsOf 4 (some .int), Cond.methodLink RX3 68 yX3_holds, Cond.methodLink RX3 34 yX3_living, Cond.instanceMethod yX3_living, Cond.selects RX3 yX3_living yX3_living, Cond.code yX3_living cX3_living 3 (some .int), Cond.methodLink RX3 83 yX3_floorsUp, Cond.instanceMethod yX3_floorsUp, Cond.selects RX3 yX3_floorsUp yX3_floorsUp, Cond.code yX3_floorsUp cX3_floorsUp 3 (some .int)]
def wsX4_house_r6 : List Cond := [Cond.methodLink RX3 72 yX3_staysDown, Cond.instanceMethod yX3_staysDown, Cond.selects RX3 yX3_staysDown yX3_staysDown, Cond.code yX3_staysDown cX3_staysDown 2 (some .boolean), Cond.methodLink RX3 75 yJ6_bitCount_0f7a4, Cond.static yJ6_bitCount_0f7a4, Cond.initialized RJ6, Cond.code yJ6_bitCount_0f7a4 cJ6_bitCount_0f7a4 1 (some .int), Cond.constant RJ6 265 (1431655765), Cond.constant RJ6 266 (858993459), Cond.constant RJ6 267 (252645135), Cond.methodLink RX3 56 yX3_ageAfter, Cond.instanceMethod yX3_ageAfter, Cond.selects RX3 yX3_ageAfter yX3_ageAfter, Cond.code yX3_ageAfter cX3_ageAfter 3 (some .int), Cond.methodLink RX3 98 Lib.Math.min.name, Cond.static Lib.Math.min.name, Cond.code Lib.Math.min.name Lib.Math.min.code 2 (some .int), Cond.methodLink RX4 204 yX2_statements, Cond.instanceMethod yX2_statements, Cond.selects RX2 yX2_statements yX2_statements, Cond.code yX2_statements cX2_statements 3 (some .int), Cond.methodLink RX4 58 yX2_forget, Cond.instanceMethod yX2_forget]
def wsX4_house_r7 : List Cond := [Cond.selects RX2 yX2_forget yX2_forget, Cond.code yX2_forget cX2_forget 1 none]
def wsX4_house : List Cond := .code yX4_house cX4_house 2 (some .int) :: ((wsX4_house_r1 ++ (wsX4_house_r2 ++ (wsX4_house_r3 ++ (wsX4_house_r4 ++ (wsX4_house_r5 ++ (wsX4_house_r6 ++ wsX4_house_r7)))))) ++ wsX40 ++ wsX20 ++ wsX30)
def wsX4_isKind : List Cond := .code yX4_isKind cX4_isKind 1 (some .boolean) :: ([])
def wsX4_enter_r1 : List Cond := [Cond.fieldLink RX4 10 "UpWhenDies" "now" "LUpWhenDies$Tower;", Cond.methodLink RX4 61 yX4_isKind, Cond.static yX4_isKind, Cond.initialized RX4, Cond.code yX4_isKind cX4_isKind 1 (some .boolean), Cond.methodLink RX4 43 yX4_refuse, Cond.instanceMethod yX4_refuse, Cond.selects RX4 yX4_refuse yX4_refuse, Cond.code yX4_refuse cX4_refuse 3 (some .int), Cond.fieldLink RX4 40 "UpWhenDies" "refused" "[I", Cond.methodLink RX4 65 yX3_isFull, Cond.instanceMethod yX3_isFull, Cond.selects RX3 yX3_isFull yX3_isFull, Cond.initialized RX3, Cond.code yX3_isFull cX3_isFull 1 (some .boolean), Cond.fieldLink RX3 27 "UpWhenDies$Tower" "came" "I", Cond.methodLink RX4 66 yX3_couldComeIn, Cond.instanceMethod yX3_couldComeIn, Cond.selects RX3 yX3_couldComeIn yX3_couldComeIn, Cond.code yX3_couldComeIn cX3_couldComeIn 3 (some .boolean), Cond.methodLink RX3 42 yX3_isFull, Cond.methodLink RX3 46 yX0_entryFloor, Cond.static yX0_entryFloor, Cond.initialized RX0]
def wsX4_enter_r2 : List Cond := [Cond.code yX0_entryFloor cX0_entryFloor 3 (some .int), Cond.methodLink RX0 11 Lib.Math.max.name, Cond.static Lib.Math.max.name, Cond.initialized "java/lang/Math", Cond.code Lib.Math.max.name Lib.Math.max.code 2 (some .int), Cond.methodLink RX3 52 yX3_whoLivesOn, Cond.instanceMethod yX3_whoLivesOn, Cond.selects RX3 yX3_whoLivesOn yX3_whoLivesOn, Cond.code yX3_whoLivesOn cX3_whoLivesOn 3 (some .int), Cond.fieldLink RX3 18 "UpWhenDies$Tower" "floor" "[I", Cond.methodLink RX3 38 yX3_isAlive, Cond.instanceMethod yX3_isAlive, Cond.selects RX3 yX3_isAlive yX3_isAlive, Cond.code yX3_isAlive cX3_isAlive 2 (some .boolean), Cond.methodLink RX4 70 yX3_admit, Cond.instanceMethod yX3_admit, Cond.selects RX3 yX3_admit yX3_admit, Cond.code yX3_admit cX3_admit 5 (some .int), Cond.fieldLink RX3 9 "UpWhenDies$Tower" "kind" "[I", Cond.fieldLink RX3 15 "UpWhenDies$Tower" "age" "[I", Cond.fieldLink RX3 21 "UpWhenDies$Tower" "load" "[I", Cond.fieldLink RX3 24 "UpWhenDies$Tower" "wished" "[I"]
def wsX4_enter : List Cond := .code yX4_enter cX4_enter 4 (some .int) :: ((wsX4_enter_r1 ++ wsX4_enter_r2) ++ wsX40 ++ wsX30)
def wsX4_lodger_r1 : List Cond := [Cond.fieldLink RX4 10 "UpWhenDies" "now" "LUpWhenDies$Tower;", Cond.fieldLink RX4 77 "UpWhenDies$Tower" "kind" "[I", Cond.fieldLink RX4 80 "UpWhenDies$Tower" "age" "[I", Cond.fieldLink RX4 83 "UpWhenDies$Tower" "floor" "[I", Cond.fieldLink RX4 86 "UpWhenDies$Tower" "load" "[I", Cond.methodLink RX4 74 yX3_isAlive, Cond.instanceMethod yX3_isAlive, Cond.selects RX3 yX3_isAlive yX3_isAlive, Cond.initialized RX3, Cond.code yX3_isAlive cX3_isAlive 2 (some .boolean), Cond.fieldLink RX3 27 "UpWhenDies$Tower" "came" "I", Cond.fieldLink RX3 18 "UpWhenDies$Tower" "floor" "[I", Cond.methodLink RX4 43 yX4_refuse, Cond.instanceMethod yX4_refuse, Cond.selects RX4 yX4_refuse yX4_refuse, Cond.initialized RX4, Cond.code yX4_refuse cX4_refuse 3 (some .int), Cond.fieldLink RX4 40 "UpWhenDies" "refused" "[I", Cond.methodLink RX4 89 yX3_chanceAfter, Cond.instanceMethod yX3_chanceAfter, Cond.selects RX3 yX3_chanceAfter yX3_chanceAfter, Cond.code yX3_chanceAfter cX3_chanceAfter 3 (some .int), Cond.fieldLink RX3 9 "UpWhenDies$Tower" "kind" "[I", Cond.methodLink RX3 56 yX3_ageAfter]
def wsX4_lodger_r2 : List Cond := [Cond.instanceMethod yX3_ageAfter, Cond.selects RX3 yX3_ageAfter yX3_ageAfter, Cond.code yX3_ageAfter cX3_ageAfter 3 (some .int), Cond.fieldLink RX3 15 "UpWhenDies$Tower" "age" "[I", Cond.methodLink RX3 98 Lib.Math.min.name, Cond.static Lib.Math.min.name, Cond.initialized "java/lang/Math", Cond.code Lib.Math.min.name Lib.Math.min.code 2 (some .int), Cond.methodLink RX3 59 yX0_chance, Cond.static yX0_chance, Cond.initialized RX0, Cond.code yX0_chance cX0_chance 3 (some .int), Cond.methodLink RX0 11 Lib.Math.max.name, Cond.static Lib.Math.max.name, Cond.code Lib.Math.max.name Lib.Math.max.code 2 (some .int), Cond.methodLink RX0 17 yX0_strongChance, Cond.static yX0_strongChance, Cond.code yX0_strongChance cX0_strongChance 1 (some .int), Cond.methodLink RX0 21 yX0_illChance, Cond.static yX0_illChance, Cond.code yX0_illChance cX0_illChance 1 (some .int), Cond.methodLink RX0 24 Lib.Math.min.name, Cond.methodLink RX4 93 yX3_climbAfter, Cond.instanceMethod yX3_climbAfter]
def wsX4_lodger_r3 : List Cond := [Cond.selects RX3 yX3_climbAfter yX3_climbAfter, Cond.code yX3_climbAfter cX3_climbAfter 3 (some .int), Cond.methodLink RX3 62 yX0_climb, Cond.static yX0_climb, Cond.code yX0_climb cX0_climb 3 (some .int), Cond.methodLink RX4 96 yX3_wishTold, Cond.instanceMethod yX3_wishTold, Cond.selects RX3 yX3_wishTold yX3_wishTold, Cond.code yX3_wishTold cX3_wishTold 2 (some .int), Cond.fieldLink RX3 24 "UpWhenDies$Tower" "wished" "[I"]
def wsX4_lodger : List Cond := .code yX4_lodger cX4_lodger 3 (some .int) :: ((wsX4_lodger_r1 ++ (wsX4_lodger_r2 ++ wsX4_lodger_r3)) ++ wsX40 ++ wsX30)
def wsX4_isFloor : List Cond := .code yX4_isFloor cX4_isFloor 1 (some .boolean) :: ([])
def wsX4_wish : List Cond := .code yX4_wish cX4_wish 4 (some .int) :: ([.fieldLink RX4 10 "UpWhenDies" "now" "LUpWhenDies$Tower;", .fieldLink RX4 102 "UpWhenDies$Tower" "wished" "[I", .methodLink RX4 74 yX3_isAlive, .instanceMethod yX3_isAlive, .selects RX3 yX3_isAlive yX3_isAlive, .initialized RX3, .code yX3_isAlive cX3_isAlive 2 (some .boolean), .fieldLink RX3 27 "UpWhenDies$Tower" "came" "I", .fieldLink RX3 18 "UpWhenDies$Tower" "floor" "[I", .methodLink RX4 43 yX4_refuse, .instanceMethod yX4_refuse, .selects RX4 yX4_refuse yX4_refuse, .initialized RX4, .code yX4_refuse cX4_refuse 3 (some .int), .fieldLink RX4 40 "UpWhenDies" "refused" "[I", .methodLink RX4 99 yX4_isFloor, .static yX4_isFloor, .code yX4_isFloor cX4_isFloor 1 (some .boolean), .methodLink RX4 96 yX3_wishTold, .instanceMethod yX3_wishTold, .selects RX3 yX3_wishTold yX3_wishTold, .code yX3_wishTold cX3_wishTold 2 (some .int), .fieldLink RX3 24 "UpWhenDies$Tower" "wished" "[I"] ++ wsX40 ++ wsX30)
def wsX4_year_r1 : List Cond := [Cond.fieldLink RX4 10 "UpWhenDies" "now" "LUpWhenDies$Tower;", Cond.fieldLink RX4 108 "UpWhenDies$Tower" "yearNow" "I", Cond.methodLink RX4 105 yX3_areAlive, Cond.instanceMethod yX3_areAlive, Cond.selects RX3 yX3_areAlive yX3_areAlive, Cond.initialized RX3, Cond.code yX3_areAlive cX3_areAlive 2 (some .boolean), Cond.methodLink RX3 34 yX3_living, Cond.instanceMethod yX3_living, Cond.selects RX3 yX3_living yX3_living, Cond.code yX3_living cX3_living 3 (some .int), Cond.methodLink RX3 38 yX3_isAlive, Cond.instanceMethod yX3_isAlive, Cond.selects RX3 yX3_isAlive yX3_isAlive, Cond.code yX3_isAlive cX3_isAlive 2 (some .boolean), Cond.fieldLink RX3 27 "UpWhenDies$Tower" "came" "I", Cond.fieldLink RX3 18 "UpWhenDies$Tower" "floor" "[I", Cond.methodLink RX4 43 yX4_refuse, Cond.instanceMethod yX4_refuse, Cond.selects RX4 yX4_refuse yX4_refuse, Cond.initialized RX4, Cond.code yX4_refuse cX4_refuse 3 (some .int), Cond.fieldLink RX4 40 "UpWhenDies" "refused" "[I", Cond.methodLink RX4 112 yX3_passYear]
def wsX4_year_r2 : List Cond := [Cond.instanceMethod yX3_passYear, Cond.selects RX3 yX3_passYear yX3_passYear, Cond.code yX3_passYear cX3_passYear 8 (some .int), Cond.fieldLink RX3 15 "UpWhenDies$Tower" "age" "[I", Cond.fieldLink RX3 31 "UpWhenDies$Tower" "yearNow" "I", Cond.methodLink RX3 80 yX3_floorsOf, Cond.instanceMethod yX3_floorsOf, Cond.selects RX3 yX3_floorsOf yX3_floorsOf, Cond.code yX3_floorsOf cX3_floorsOf 4 (some .int), Cond.methodLink RX3 68 yX3_holds, Cond.static yX3_holds, Cond.code yX3_holds cX3_holds 2 (some .boolean), Cond.methodLink RX3 83 yX3_floorsUp, Cond.instanceMethod yX3_floorsUp, Cond.selects RX3 yX3_floorsUp yX3_floorsUp, Cond.code yX3_floorsUp cX3_floorsUp 3 (some .int), Cond.methodLink RX3 72 yX3_staysDown, Cond.instanceMethod yX3_staysDown, Cond.selects RX3 yX3_staysDown yX3_staysDown, Cond.code yX3_staysDown cX3_staysDown 2 (some .boolean), Cond.fieldLink RX3 9 "UpWhenDies$Tower" "kind" "[I", Cond.methodLink RX3 75 yJ6_bitCount_0f7a4, Cond.static yJ6_bitCount_0f7a4, Cond.initialized RJ6]
def wsX4_year_r3 : List Cond := [Cond.code yJ6_bitCount_0f7a4 cJ6_bitCount_0f7a4 1 (some .int), Cond.constant RJ6 265 (1431655765), Cond.constant RJ6 266 (858993459), Cond.constant RJ6 267 (252645135), Cond.methodLink RX3 56 yX3_ageAfter, Cond.instanceMethod yX3_ageAfter, Cond.selects RX3 yX3_ageAfter yX3_ageAfter, Cond.code yX3_ageAfter cX3_ageAfter 3 (some .int), Cond.methodLink RX3 98 Lib.Math.min.name, Cond.static Lib.Math.min.name, Cond.initialized "java/lang/Math", Cond.code Lib.Math.min.name Lib.Math.min.code 2 (some .int)]
def wsX4_year : List Cond := .code yX4_year cX4_year 2 (some .int) :: ((wsX4_year_r1 ++ (wsX4_year_r2 ++ wsX4_year_r3)) ++ wsX40 ++ wsX30)
def wsX4_on : List Cond := .code yX4_on cX4_on 3 (some .int) :: ([.fieldLink RX4 10 "UpWhenDies" "now" "LUpWhenDies$Tower;", .methodLink RX4 99 yX4_isFloor, .static yX4_isFloor, .initialized RX4, .code yX4_isFloor cX4_isFloor 1 (some .boolean), .methodLink RX4 43 yX4_refuse, .instanceMethod yX4_refuse, .selects RX4 yX4_refuse yX4_refuse, .code yX4_refuse cX4_refuse 3 (some .int), .fieldLink RX4 40 "UpWhenDies" "refused" "[I", .methodLink RX4 115 yX3_whoLivesOn, .instanceMethod yX3_whoLivesOn, .selects RX3 yX3_whoLivesOn yX3_whoLivesOn, .initialized RX3, .code yX3_whoLivesOn cX3_whoLivesOn 3 (some .int), .fieldLink RX3 18 "UpWhenDies$Tower" "floor" "[I", .methodLink RX3 38 yX3_isAlive, .instanceMethod yX3_isAlive, .selects RX3 yX3_isAlive yX3_isAlive, .code yX3_isAlive cX3_isAlive 2 (some .boolean), .fieldLink RX3 27 "UpWhenDies$Tower" "came" "I"] ++ wsX40 ++ wsX30)
def wsX4_refuseLong : List Cond := .code yX4_refuseLong cX4_refuseLong 2 (some .long) :: ([.constantLong RX4 195 (4000000000000000000), .methodLink RX4 43 yX4_refuse, .instanceMethod yX4_refuse, .selects RX4 yX4_refuse yX4_refuse, .initialized RX4, .code yX4_refuse cX4_refuse 3 (some .int), .fieldLink RX4 40 "UpWhenDies" "refused" "[I"] ++ wsX40)
def wsX4_likely_r1 : List Cond := [Cond.fieldLink RX4 10 "UpWhenDies" "now" "LUpWhenDies$Tower;", Cond.fieldLink RX4 32 "UpWhenDies" "odds" "LUpWhenDies$Odds;", Cond.fieldLink RX4 126 "UpWhenDies$Odds" "above" "J", Cond.fieldLink RX4 130 "UpWhenDies$Odds" "below" "J", Cond.methodLink RX4 74 yX3_isAlive, Cond.instanceMethod yX3_isAlive, Cond.selects RX3 yX3_isAlive yX3_isAlive, Cond.initialized RX3, Cond.code yX3_isAlive cX3_isAlive 2 (some .boolean), Cond.fieldLink RX3 27 "UpWhenDies$Tower" "came" "I", Cond.fieldLink RX3 18 "UpWhenDies$Tower" "floor" "[I", Cond.methodLink RX4 99 yX4_isFloor, Cond.static yX4_isFloor, Cond.initialized RX4, Cond.code yX4_isFloor cX4_isFloor 1 (some .boolean), Cond.methodLink RX4 118 yX4_refuseLong, Cond.instanceMethod yX4_refuseLong, Cond.selects RX4 yX4_refuseLong yX4_refuseLong, Cond.code yX4_refuseLong cX4_refuseLong 2 (some .long), Cond.constantLong RX4 195 (4000000000000000000), Cond.methodLink RX4 43 yX4_refuse, Cond.instanceMethod yX4_refuse, Cond.selects RX4 yX4_refuse yX4_refuse, Cond.code yX4_refuse cX4_refuse 3 (some .int)]
def wsX4_likely_r2 : List Cond := [Cond.fieldLink RX4 40 "UpWhenDies" "refused" "[I", Cond.methodLink RX4 122 yX1_reckon, Cond.instanceMethod yX1_reckon, Cond.selects RX1 yX1_reckon yX1_reckon, Cond.initialized RX1, Cond.code yX1_reckon cX1_reckon 8 none, Cond.constantLong RX1 15 (10), Cond.constantLong RX1 17 (100), Cond.fieldLink RX1 28 "UpWhenDies$Tower" "floor" "[I", Cond.methodLink RX1 40 Lib.Math.max.name, Cond.static Lib.Math.max.name, Cond.initialized "java/lang/Math", Cond.code Lib.Math.max.name Lib.Math.max.code 2 (some .int), Cond.fieldLink RX1 53 "UpWhenDies$Odds" "above" "J", Cond.fieldLink RX1 57 "UpWhenDies$Odds" "below" "J", Cond.methodLink RX1 19 yX1_clear, Cond.instanceMethod yX1_clear, Cond.selects RX1 yX1_clear yX1_clear, Cond.code yX1_clear cX1_clear 2 none, Cond.fieldLink RX1 9 "UpWhenDies$Odds" "byDeaths" "[J", Cond.methodLink RX1 22 yX3_isAlive, Cond.methodLink RX1 32 yX1_survival, Cond.static yX1_survival, Cond.code yX1_survival cX1_survival 6 (some .long)]
def wsX4_likely_r3 : List Cond := [Cond.methodLink RX1 63 yX3_chanceAfter, Cond.instanceMethod yX3_chanceAfter, Cond.selects RX3 yX3_chanceAfter yX3_chanceAfter, Cond.code yX3_chanceAfter cX3_chanceAfter 3 (some .int), Cond.fieldLink RX3 9 "UpWhenDies$Tower" "kind" "[I", Cond.methodLink RX3 56 yX3_ageAfter, Cond.instanceMethod yX3_ageAfter, Cond.selects RX3 yX3_ageAfter yX3_ageAfter, Cond.code yX3_ageAfter cX3_ageAfter 3 (some .int), Cond.fieldLink RX3 15 "UpWhenDies$Tower" "age" "[I", Cond.methodLink RX3 98 Lib.Math.min.name, Cond.static Lib.Math.min.name, Cond.code Lib.Math.min.name Lib.Math.min.code 2 (some .int), Cond.methodLink RX3 59 yX0_chance, Cond.static yX0_chance, Cond.initialized RX0, Cond.code yX0_chance cX0_chance 3 (some .int), Cond.methodLink RX0 11 Lib.Math.max.name, Cond.methodLink RX0 17 yX0_strongChance, Cond.static yX0_strongChance, Cond.code yX0_strongChance cX0_strongChance 1 (some .int), Cond.methodLink RX0 21 yX0_illChance, Cond.static yX0_illChance, Cond.code yX0_illChance cX0_illChance 1 (some .int)]
def wsX4_likely_r4 : List Cond := [Cond.methodLink RX0 24 Lib.Math.min.name, Cond.methodLink RX1 36 yX1_addOneAbove, Cond.instanceMethod yX1_addOneAbove, Cond.selects RX1 yX1_addOneAbove yX1_addOneAbove, Cond.code yX1_addOneAbove cX1_addOneAbove 6 none, Cond.methodLink RX1 46 yX3_staysDown, Cond.instanceMethod yX3_staysDown, Cond.selects RX3 yX3_staysDown yX3_staysDown, Cond.code yX3_staysDown cX3_staysDown 2 (some .boolean), Cond.methodLink RX1 49 yX1_atLeast, Cond.instanceMethod yX1_atLeast, Cond.selects RX1 yX1_atLeast yX1_atLeast, Cond.code yX1_atLeast cX1_atLeast 5 (some .long), Cond.methodLink RX1 60 yX1_shorten, Cond.instanceMethod yX1_shorten, Cond.selects RX1 yX1_shorten yX1_shorten, Cond.code yX1_shorten cX1_shorten 8 none]
def wsX4_likely : List Cond := .code yX4_likely cX4_likely 5 (some .long) :: ((wsX4_likely_r1 ++ (wsX4_likely_r2 ++ (wsX4_likely_r3 ++ wsX4_likely_r4))) ++ wsX40 ++ wsX10 ++ wsX30)
def wsX4_mean_r1 : List Cond := [Cond.fieldLink RX4 10 "UpWhenDies" "now" "LUpWhenDies$Tower;", Cond.methodLink RX4 74 yX3_isAlive, Cond.instanceMethod yX3_isAlive, Cond.selects RX3 yX3_isAlive yX3_isAlive, Cond.initialized RX3, Cond.code yX3_isAlive cX3_isAlive 2 (some .boolean), Cond.fieldLink RX3 27 "UpWhenDies$Tower" "came" "I", Cond.fieldLink RX3 18 "UpWhenDies$Tower" "floor" "[I", Cond.methodLink RX4 89 yX3_chanceAfter, Cond.instanceMethod yX3_chanceAfter, Cond.selects RX3 yX3_chanceAfter yX3_chanceAfter, Cond.code yX3_chanceAfter cX3_chanceAfter 3 (some .int), Cond.fieldLink RX3 9 "UpWhenDies$Tower" "kind" "[I", Cond.methodLink RX3 56 yX3_ageAfter, Cond.instanceMethod yX3_ageAfter, Cond.selects RX3 yX3_ageAfter yX3_ageAfter, Cond.code yX3_ageAfter cX3_ageAfter 3 (some .int), Cond.fieldLink RX3 15 "UpWhenDies$Tower" "age" "[I", Cond.methodLink RX3 98 Lib.Math.min.name, Cond.static Lib.Math.min.name, Cond.initialized "java/lang/Math", Cond.code Lib.Math.min.name Lib.Math.min.code 2 (some .int), Cond.methodLink RX3 59 yX0_chance, Cond.static yX0_chance]
def wsX4_mean_r2 : List Cond := [Cond.initialized RX0, Cond.code yX0_chance cX0_chance 3 (some .int), Cond.methodLink RX0 11 Lib.Math.max.name, Cond.static Lib.Math.max.name, Cond.code Lib.Math.max.name Lib.Math.max.code 2 (some .int), Cond.methodLink RX0 17 yX0_strongChance, Cond.static yX0_strongChance, Cond.code yX0_strongChance cX0_strongChance 1 (some .int), Cond.methodLink RX0 21 yX0_illChance, Cond.static yX0_illChance, Cond.code yX0_illChance cX0_illChance 1 (some .int), Cond.methodLink RX0 24 Lib.Math.min.name]
def wsX4_mean : List Cond := .code yX4_mean cX4_mean 3 (some .int) :: ((wsX4_mean_r1 ++ wsX4_mean_r2) ++ wsX40 ++ wsX30)
def wsX4_deaths_r1 : List Cond := [Cond.fieldLink RX4 10 "UpWhenDies" "now" "LUpWhenDies$Tower;", Cond.fieldLink RX4 83 "UpWhenDies$Tower" "floor" "[I", Cond.methodLink RX4 74 yX3_isAlive, Cond.instanceMethod yX3_isAlive, Cond.selects RX3 yX3_isAlive yX3_isAlive, Cond.initialized RX3, Cond.code yX3_isAlive cX3_isAlive 2 (some .boolean), Cond.fieldLink RX3 27 "UpWhenDies$Tower" "came" "I", Cond.fieldLink RX3 18 "UpWhenDies$Tower" "floor" "[I", Cond.methodLink RX4 99 yX4_isFloor, Cond.static yX4_isFloor, Cond.initialized RX4, Cond.code yX4_isFloor cX4_isFloor 1 (some .boolean), Cond.methodLink RX4 43 yX4_refuse, Cond.instanceMethod yX4_refuse, Cond.selects RX4 yX4_refuse yX4_refuse, Cond.code yX4_refuse cX4_refuse 3 (some .int), Cond.fieldLink RX4 40 "UpWhenDies" "refused" "[I", Cond.methodLink RX4 133 yX3_staysDown, Cond.instanceMethod yX3_staysDown, Cond.selects RX3 yX3_staysDown yX3_staysDown, Cond.code yX3_staysDown cX3_staysDown 2 (some .boolean), Cond.fieldLink RX3 9 "UpWhenDies$Tower" "kind" "[I", Cond.methodLink RX4 136 yX3_living]
def wsX4_deaths_r2 : List Cond := [Cond.instanceMethod yX3_living, Cond.selects RX3 yX3_living yX3_living, Cond.code yX3_living cX3_living 3 (some .int), Cond.methodLink RX3 38 yX3_isAlive, Cond.methodLink RX4 139 yX3_floorsOf, Cond.instanceMethod yX3_floorsOf, Cond.selects RX3 yX3_floorsOf yX3_floorsOf, Cond.code yX3_floorsOf cX3_floorsOf 4 (some .int), Cond.methodLink RX3 68 yX3_holds, Cond.static yX3_holds, Cond.code yX3_holds cX3_holds 2 (some .boolean), Cond.methodLink RX4 142 yX3_floorsUp, Cond.instanceMethod yX3_floorsUp, Cond.selects RX3 yX3_floorsUp yX3_floorsUp, Cond.code yX3_floorsUp cX3_floorsUp 3 (some .int), Cond.methodLink RX3 72 yX3_staysDown, Cond.methodLink RX3 75 yJ6_bitCount_0f7a4, Cond.static yJ6_bitCount_0f7a4, Cond.initialized RJ6, Cond.code yJ6_bitCount_0f7a4 cJ6_bitCount_0f7a4 1 (some .int), Cond.constant RJ6 265 (1431655765), Cond.constant RJ6 266 (858993459), Cond.constant RJ6 267 (252645135), Cond.methodLink RX4 145 yX3_likeliestAbove]
def wsX4_deaths_r3 : List Cond := [Cond.instanceMethod yX3_likeliestAbove, Cond.selects RX3 yX3_likeliestAbove yX3_likeliestAbove, Cond.code yX3_likeliestAbove cX3_likeliestAbove 7 (some .int), Cond.methodLink RX3 86 yX3_chanceAfter, Cond.instanceMethod yX3_chanceAfter, Cond.selects RX3 yX3_chanceAfter yX3_chanceAfter, Cond.code yX3_chanceAfter cX3_chanceAfter 3 (some .int), Cond.methodLink RX3 56 yX3_ageAfter, Cond.instanceMethod yX3_ageAfter, Cond.selects RX3 yX3_ageAfter yX3_ageAfter, Cond.code yX3_ageAfter cX3_ageAfter 3 (some .int), Cond.fieldLink RX3 15 "UpWhenDies$Tower" "age" "[I", Cond.methodLink RX3 98 Lib.Math.min.name, Cond.static Lib.Math.min.name, Cond.initialized "java/lang/Math", Cond.code Lib.Math.min.name Lib.Math.min.code 2 (some .int), Cond.methodLink RX3 59 yX0_chance, Cond.static yX0_chance, Cond.initialized RX0, Cond.code yX0_chance cX0_chance 3 (some .int), Cond.methodLink RX0 11 Lib.Math.max.name, Cond.static Lib.Math.max.name, Cond.code Lib.Math.max.name Lib.Math.max.code 2 (some .int), Cond.methodLink RX0 17 yX0_strongChance]
def wsX4_deaths_r4 : List Cond := [Cond.static yX0_strongChance, Cond.code yX0_strongChance cX0_strongChance 1 (some .int), Cond.methodLink RX0 21 yX0_illChance, Cond.static yX0_illChance, Cond.code yX0_illChance cX0_illChance 1 (some .int), Cond.methodLink RX0 24 Lib.Math.min.name]
def wsX4_deaths : List Cond := .code yX4_deaths cX4_deaths 5 (some .int) :: ((wsX4_deaths_r1 ++ (wsX4_deaths_r2 ++ (wsX4_deaths_r3 ++ wsX4_deaths_r4))) ++ wsX40 ++ wsX30)
def wsX4_stuck_r1 : List Cond := [Cond.fieldLink RX4 10 "UpWhenDies" "now" "LUpWhenDies$Tower;", Cond.methodLink RX4 74 yX3_isAlive, Cond.instanceMethod yX3_isAlive, Cond.selects RX3 yX3_isAlive yX3_isAlive, Cond.initialized RX3, Cond.code yX3_isAlive cX3_isAlive 2 (some .boolean), Cond.fieldLink RX3 27 "UpWhenDies$Tower" "came" "I", Cond.fieldLink RX3 18 "UpWhenDies$Tower" "floor" "[I", Cond.methodLink RX4 148 yX3_isOutOfReach, Cond.instanceMethod yX3_isOutOfReach, Cond.selects RX3 yX3_isOutOfReach yX3_isOutOfReach, Cond.code yX3_isOutOfReach cX3_isOutOfReach 3 (some .boolean), Cond.methodLink RX3 65 yX3_climbAfter, Cond.instanceMethod yX3_climbAfter, Cond.selects RX3 yX3_climbAfter yX3_climbAfter, Cond.code yX3_climbAfter cX3_climbAfter 3 (some .int), Cond.fieldLink RX3 9 "UpWhenDies$Tower" "kind" "[I", Cond.methodLink RX3 56 yX3_ageAfter, Cond.instanceMethod yX3_ageAfter, Cond.selects RX3 yX3_ageAfter yX3_ageAfter, Cond.code yX3_ageAfter cX3_ageAfter 3 (some .int), Cond.fieldLink RX3 15 "UpWhenDies$Tower" "age" "[I", Cond.methodLink RX3 98 Lib.Math.min.name, Cond.static Lib.Math.min.name]
def wsX4_stuck_r2 : List Cond := [Cond.initialized "java/lang/Math", Cond.code Lib.Math.min.name Lib.Math.min.code 2 (some .int), Cond.methodLink RX3 62 yX0_climb, Cond.static yX0_climb, Cond.initialized RX0, Cond.code yX0_climb cX0_climb 3 (some .int), Cond.methodLink RX0 24 Lib.Math.min.name]
def wsX4_stuck : List Cond := .code yX4_stuck cX4_stuck 3 (some .int) :: ((wsX4_stuck_r1 ++ wsX4_stuck_r2) ++ wsX40 ++ wsX30)
def wsX4_safe_r1 : List Cond := [Cond.fieldLink RX4 10 "UpWhenDies" "now" "LUpWhenDies$Tower;", Cond.methodLink RX4 74 yX3_isAlive, Cond.instanceMethod yX3_isAlive, Cond.selects RX3 yX3_isAlive yX3_isAlive, Cond.initialized RX3, Cond.code yX3_isAlive cX3_isAlive 2 (some .boolean), Cond.fieldLink RX3 27 "UpWhenDies$Tower" "came" "I", Cond.fieldLink RX3 18 "UpWhenDies$Tower" "floor" "[I", Cond.methodLink RX4 43 yX4_refuse, Cond.instanceMethod yX4_refuse, Cond.selects RX4 yX4_refuse yX4_refuse, Cond.initialized RX4, Cond.code yX4_refuse cX4_refuse 3 (some .int), Cond.fieldLink RX4 40 "UpWhenDies" "refused" "[I", Cond.methodLink RX4 148 yX3_isOutOfReach, Cond.instanceMethod yX3_isOutOfReach, Cond.selects RX3 yX3_isOutOfReach yX3_isOutOfReach, Cond.code yX3_isOutOfReach cX3_isOutOfReach 3 (some .boolean), Cond.methodLink RX3 65 yX3_climbAfter, Cond.instanceMethod yX3_climbAfter, Cond.selects RX3 yX3_climbAfter yX3_climbAfter, Cond.code yX3_climbAfter cX3_climbAfter 3 (some .int), Cond.fieldLink RX3 9 "UpWhenDies$Tower" "kind" "[I", Cond.methodLink RX3 56 yX3_ageAfter]
def wsX4_safe_r2 : List Cond := [Cond.instanceMethod yX3_ageAfter, Cond.selects RX3 yX3_ageAfter yX3_ageAfter, Cond.code yX3_ageAfter cX3_ageAfter 3 (some .int), Cond.fieldLink RX3 15 "UpWhenDies$Tower" "age" "[I", Cond.methodLink RX3 98 Lib.Math.min.name, Cond.static Lib.Math.min.name, Cond.initialized "java/lang/Math", Cond.code Lib.Math.min.name Lib.Math.min.code 2 (some .int), Cond.methodLink RX3 62 yX0_climb, Cond.static yX0_climb, Cond.initialized RX0, Cond.code yX0_climb cX0_climb 3 (some .int), Cond.methodLink RX0 24 Lib.Math.min.name]
def wsX4_safe : List Cond := .code yX4_safe cX4_safe 4 (some .int) :: ((wsX4_safe_r1 ++ wsX4_safe_r2) ++ wsX40 ++ wsX30)
def wsX4_carried_r1 : List Cond := [Cond.fieldLink RX4 10 "UpWhenDies" "now" "LUpWhenDies$Tower;", Cond.methodLink RX4 105 yX3_areAlive, Cond.instanceMethod yX3_areAlive, Cond.selects RX3 yX3_areAlive yX3_areAlive, Cond.initialized RX3, Cond.code yX3_areAlive cX3_areAlive 2 (some .boolean), Cond.methodLink RX3 34 yX3_living, Cond.instanceMethod yX3_living, Cond.selects RX3 yX3_living yX3_living, Cond.code yX3_living cX3_living 3 (some .int), Cond.methodLink RX3 38 yX3_isAlive, Cond.instanceMethod yX3_isAlive, Cond.selects RX3 yX3_isAlive yX3_isAlive, Cond.code yX3_isAlive cX3_isAlive 2 (some .boolean), Cond.fieldLink RX3 27 "UpWhenDies$Tower" "came" "I", Cond.fieldLink RX3 18 "UpWhenDies$Tower" "floor" "[I", Cond.methodLink RX4 43 yX4_refuse, Cond.instanceMethod yX4_refuse, Cond.selects RX4 yX4_refuse yX4_refuse, Cond.initialized RX4, Cond.code yX4_refuse cX4_refuse 3 (some .int), Cond.fieldLink RX4 40 "UpWhenDies" "refused" "[I", Cond.methodLink RX4 151 yX3_burden, Cond.instanceMethod yX3_burden]
def wsX4_carried_r2 : List Cond := [Cond.selects RX3 yX3_burden yX3_burden, Cond.code yX3_burden cX3_burden 5 (some .int), Cond.fieldLink RX3 21 "UpWhenDies$Tower" "load" "[I", Cond.methodLink RX3 80 yX3_floorsOf, Cond.instanceMethod yX3_floorsOf, Cond.selects RX3 yX3_floorsOf yX3_floorsOf, Cond.code yX3_floorsOf cX3_floorsOf 4 (some .int), Cond.methodLink RX3 68 yX3_holds, Cond.static yX3_holds, Cond.code yX3_holds cX3_holds 2 (some .boolean), Cond.methodLink RX3 83 yX3_floorsUp, Cond.instanceMethod yX3_floorsUp, Cond.selects RX3 yX3_floorsUp yX3_floorsUp, Cond.code yX3_floorsUp cX3_floorsUp 3 (some .int), Cond.methodLink RX3 72 yX3_staysDown, Cond.instanceMethod yX3_staysDown, Cond.selects RX3 yX3_staysDown yX3_staysDown, Cond.code yX3_staysDown cX3_staysDown 2 (some .boolean), Cond.fieldLink RX3 9 "UpWhenDies$Tower" "kind" "[I", Cond.methodLink RX3 75 yJ6_bitCount_0f7a4, Cond.static yJ6_bitCount_0f7a4, Cond.initialized RJ6, Cond.code yJ6_bitCount_0f7a4 cJ6_bitCount_0f7a4 1 (some .int), Cond.constant RJ6 265 (1431655765)]
def wsX4_carried_r3 : List Cond := [Cond.constant RJ6 266 (858993459), Cond.constant RJ6 267 (252645135)]
def wsX4_carried : List Cond := .code yX4_carried cX4_carried 2 (some .int) :: ((wsX4_carried_r1 ++ (wsX4_carried_r2 ++ wsX4_carried_r3)) ++ wsX40 ++ wsX30)
def wsX4_leastCarried_r1 : List Cond := [Cond.fieldLink RX4 10 "UpWhenDies" "now" "LUpWhenDies$Tower;", Cond.methodLink RX4 74 yX3_isAlive, Cond.instanceMethod yX3_isAlive, Cond.selects RX3 yX3_isAlive yX3_isAlive, Cond.initialized RX3, Cond.code yX3_isAlive cX3_isAlive 2 (some .boolean), Cond.fieldLink RX3 27 "UpWhenDies$Tower" "came" "I", Cond.fieldLink RX3 18 "UpWhenDies$Tower" "floor" "[I", Cond.methodLink RX4 151 yX3_burden, Cond.instanceMethod yX3_burden, Cond.selects RX3 yX3_burden yX3_burden, Cond.code yX3_burden cX3_burden 5 (some .int), Cond.fieldLink RX3 21 "UpWhenDies$Tower" "load" "[I", Cond.methodLink RX3 80 yX3_floorsOf, Cond.instanceMethod yX3_floorsOf, Cond.selects RX3 yX3_floorsOf yX3_floorsOf, Cond.code yX3_floorsOf cX3_floorsOf 4 (some .int), Cond.methodLink RX3 68 yX3_holds, Cond.static yX3_holds, Cond.code yX3_holds cX3_holds 2 (some .boolean), Cond.methodLink RX3 38 yX3_isAlive, Cond.methodLink RX3 83 yX3_floorsUp, Cond.instanceMethod yX3_floorsUp, Cond.selects RX3 yX3_floorsUp yX3_floorsUp]
def wsX4_leastCarried_r2 : List Cond := [Cond.code yX3_floorsUp cX3_floorsUp 3 (some .int), Cond.methodLink RX3 72 yX3_staysDown, Cond.instanceMethod yX3_staysDown, Cond.selects RX3 yX3_staysDown yX3_staysDown, Cond.code yX3_staysDown cX3_staysDown 2 (some .boolean), Cond.fieldLink RX3 9 "UpWhenDies$Tower" "kind" "[I", Cond.methodLink RX3 75 yJ6_bitCount_0f7a4, Cond.static yJ6_bitCount_0f7a4, Cond.initialized RJ6, Cond.code yJ6_bitCount_0f7a4 cJ6_bitCount_0f7a4 1 (some .int), Cond.constant RJ6 265 (1431655765), Cond.constant RJ6 266 (858993459), Cond.constant RJ6 267 (252645135)]
def wsX4_leastCarried : List Cond := .code yX4_leastCarried cX4_leastCarried 5 (some .int) :: ((wsX4_leastCarried_r1 ++ wsX4_leastCarried_r2) ++ wsX40 ++ wsX30)
def wsX4_rings : List Cond := .code yX4_rings cX4_rings 1 (some .int) :: ([.fieldLink RX4 10 "UpWhenDies" "now" "LUpWhenDies$Tower;", .methodLink RX4 154 yX3_inRings, .instanceMethod yX3_inRings, .selects RX3 yX3_inRings yX3_inRings, .initialized RX3, .code yX3_inRings cX3_inRings 3 (some .int), .methodLink RX3 38 yX3_isAlive, .instanceMethod yX3_isAlive, .selects RX3 yX3_isAlive yX3_isAlive, .code yX3_isAlive cX3_isAlive 2 (some .boolean), .fieldLink RX3 27 "UpWhenDies$Tower" "came" "I", .fieldLink RX3 18 "UpWhenDies$Tower" "floor" "[I", .methodLink RX3 89 yX3_isInRing, .instanceMethod yX3_isInRing, .selects RX3 yX3_isInRing yX3_isInRing, .code yX3_isInRing cX3_isInRing 4 (some .boolean), .fieldLink RX3 24 "UpWhenDies$Tower" "wished" "[I", .methodLink RX3 52 yX3_whoLivesOn, .instanceMethod yX3_whoLivesOn, .selects RX3 yX3_whoLivesOn yX3_whoLivesOn, .code yX3_whoLivesOn cX3_whoLivesOn 3 (some .int)] ++ wsX40 ++ wsX30)
def wsX4_changing_r1 : List Cond := [Cond.fieldLink RX4 10 "UpWhenDies" "now" "LUpWhenDies$Tower;", Cond.methodLink RX4 157 yX3_changeRings, Cond.instanceMethod yX3_changeRings, Cond.selects RX3 yX3_changeRings yX3_changeRings, Cond.initialized RX3, Cond.code yX3_changeRings cX3_changeRings 4 (some .int), Cond.fieldLink RX3 18 "UpWhenDies$Tower" "floor" "[I", Cond.fieldLink RX3 24 "UpWhenDies$Tower" "wished" "[I", Cond.methodLink RX3 92 yX3_inRings, Cond.instanceMethod yX3_inRings, Cond.selects RX3 yX3_inRings yX3_inRings, Cond.code yX3_inRings cX3_inRings 3 (some .int), Cond.methodLink RX3 38 yX3_isAlive, Cond.instanceMethod yX3_isAlive, Cond.selects RX3 yX3_isAlive yX3_isAlive, Cond.code yX3_isAlive cX3_isAlive 2 (some .boolean), Cond.fieldLink RX3 27 "UpWhenDies$Tower" "came" "I", Cond.methodLink RX3 89 yX3_isInRing, Cond.instanceMethod yX3_isInRing, Cond.selects RX3 yX3_isInRing yX3_isInRing, Cond.code yX3_isInRing cX3_isInRing 4 (some .boolean), Cond.methodLink RX3 52 yX3_whoLivesOn, Cond.instanceMethod yX3_whoLivesOn, Cond.selects RX3 yX3_whoLivesOn yX3_whoLivesOn]
def wsX4_changing_r2 : List Cond := [Cond.code yX3_whoLivesOn cX3_whoLivesOn 3 (some .int), Cond.methodLink RX3 68 yX3_holds, Cond.static yX3_holds, Cond.code yX3_holds cX3_holds 2 (some .boolean)]
def wsX4_changing : List Cond := .code yX4_changing cX4_changing 1 (some .int) :: ((wsX4_changing_r1 ++ wsX4_changing_r2) ++ wsX40 ++ wsX30)
def wsX4_free : List Cond := .code yX4_free cX4_free 1 (some .int) :: ([.fieldLink RX4 10 "UpWhenDies" "now" "LUpWhenDies$Tower;", .methodLink RX4 136 yX3_living, .instanceMethod yX3_living, .selects RX3 yX3_living yX3_living, .initialized RX3, .code yX3_living cX3_living 3 (some .int), .methodLink RX3 38 yX3_isAlive, .instanceMethod yX3_isAlive, .selects RX3 yX3_isAlive yX3_isAlive, .code yX3_isAlive cX3_isAlive 2 (some .boolean), .fieldLink RX3 27 "UpWhenDies$Tower" "came" "I", .fieldLink RX3 18 "UpWhenDies$Tower" "floor" "[I", .methodLink RX4 139 yX3_floorsOf, .instanceMethod yX3_floorsOf, .selects RX3 yX3_floorsOf yX3_floorsOf, .code yX3_floorsOf cX3_floorsOf 4 (some .int), .methodLink RX3 68 yX3_holds, .static yX3_holds, .code yX3_holds cX3_holds 2 (some .boolean)] ++ wsX40 ++ wsX30)
def wsX4_ages_r1 : List Cond := [Cond.fieldLink RX4 10 "UpWhenDies" "now" "LUpWhenDies$Tower;", Cond.methodLink RX4 61 yX4_isKind, Cond.static yX4_isKind, Cond.initialized RX4, Cond.code yX4_isKind cX4_isKind 1 (some .boolean), Cond.methodLink RX4 43 yX4_refuse, Cond.instanceMethod yX4_refuse, Cond.selects RX4 yX4_refuse yX4_refuse, Cond.code yX4_refuse cX4_refuse 3 (some .int), Cond.fieldLink RX4 40 "UpWhenDies" "refused" "[I", Cond.methodLink RX4 66 yX3_couldComeIn, Cond.instanceMethod yX3_couldComeIn, Cond.selects RX3 yX3_couldComeIn yX3_couldComeIn, Cond.initialized RX3, Cond.code yX3_couldComeIn cX3_couldComeIn 3 (some .boolean), Cond.methodLink RX3 42 yX3_isFull, Cond.instanceMethod yX3_isFull, Cond.selects RX3 yX3_isFull yX3_isFull, Cond.code yX3_isFull cX3_isFull 1 (some .boolean), Cond.fieldLink RX3 27 "UpWhenDies$Tower" "came" "I", Cond.methodLink RX3 46 yX0_entryFloor, Cond.static yX0_entryFloor, Cond.initialized RX0, Cond.code yX0_entryFloor cX0_entryFloor 3 (some .int)]
def wsX4_ages_r2 : List Cond := [Cond.methodLink RX0 11 Lib.Math.max.name, Cond.static Lib.Math.max.name, Cond.initialized "java/lang/Math", Cond.code Lib.Math.max.name Lib.Math.max.code 2 (some .int), Cond.methodLink RX3 52 yX3_whoLivesOn, Cond.instanceMethod yX3_whoLivesOn, Cond.selects RX3 yX3_whoLivesOn yX3_whoLivesOn, Cond.code yX3_whoLivesOn cX3_whoLivesOn 3 (some .int), Cond.fieldLink RX3 18 "UpWhenDies$Tower" "floor" "[I", Cond.methodLink RX3 38 yX3_isAlive, Cond.instanceMethod yX3_isAlive, Cond.selects RX3 yX3_isAlive yX3_isAlive, Cond.code yX3_isAlive cX3_isAlive 2 (some .boolean)]
def wsX4_ages : List Cond := .code yX4_ages cX4_ages 6 (some .int) :: ((wsX4_ages_r1 ++ wsX4_ages_r2) ++ wsX40 ++ wsX30)
def wsX4_row : List Cond := .code yX4_row cX4_row 2 (some .int) :: ([.fieldLink RX4 160 "UpWhenDies" "toldSize" "I", .fieldLink RX4 36 "UpWhenDies" "told" "[I", .methodLink RX4 43 yX4_refuse, .instanceMethod yX4_refuse, .selects RX4 yX4_refuse yX4_refuse, .initialized RX4, .code yX4_refuse cX4_refuse 3 (some .int), .fieldLink RX4 40 "UpWhenDies" "refused" "[I"] ++ wsX40)
def wsX4_fitsTheRow_r1 : List Cond := [Cond.fieldLink RX4 10 "UpWhenDies" "now" "LUpWhenDies$Tower;", Cond.fieldLink RX4 160 "UpWhenDies" "toldSize" "I", Cond.fieldLink RX4 83 "UpWhenDies$Tower" "floor" "[I", Cond.fieldLink RX4 36 "UpWhenDies" "told" "[I", Cond.methodLink RX4 139 yX3_floorsOf, Cond.instanceMethod yX3_floorsOf, Cond.selects RX3 yX3_floorsOf yX3_floorsOf, Cond.initialized RX3, Cond.code yX3_floorsOf cX3_floorsOf 4 (some .int), Cond.fieldLink RX3 18 "UpWhenDies$Tower" "floor" "[I", Cond.methodLink RX3 68 yX3_holds, Cond.static yX3_holds, Cond.code yX3_holds cX3_holds 2 (some .boolean), Cond.methodLink RX4 74 yX3_isAlive, Cond.instanceMethod yX3_isAlive, Cond.selects RX3 yX3_isAlive yX3_isAlive, Cond.code yX3_isAlive cX3_isAlive 2 (some .boolean), Cond.fieldLink RX3 27 "UpWhenDies$Tower" "came" "I", Cond.methodLink RX4 207 yX3_holds, Cond.methodLink RX4 142 yX3_floorsUp, Cond.instanceMethod yX3_floorsUp, Cond.selects RX3 yX3_floorsUp yX3_floorsUp, Cond.code yX3_floorsUp cX3_floorsUp 3 (some .int), Cond.methodLink RX3 72 yX3_staysDown]
def wsX4_fitsTheRow_r2 : List Cond := [Cond.instanceMethod yX3_staysDown, Cond.selects RX3 yX3_staysDown yX3_staysDown, Cond.code yX3_staysDown cX3_staysDown 2 (some .boolean), Cond.fieldLink RX3 9 "UpWhenDies$Tower" "kind" "[I", Cond.methodLink RX3 75 yJ6_bitCount_0f7a4, Cond.static yJ6_bitCount_0f7a4, Cond.initialized RJ6, Cond.code yJ6_bitCount_0f7a4 cJ6_bitCount_0f7a4 1 (some .int), Cond.constant RJ6 265 (1431655765), Cond.constant RJ6 266 (858993459), Cond.constant RJ6 267 (252645135)]
def wsX4_fitsTheRow : List Cond := .code yX4_fitsTheRow cX4_fitsTheRow 6 (some .boolean) :: ((wsX4_fitsTheRow_r1 ++ wsX4_fitsTheRow_r2) ++ wsX40 ++ wsX30)
def wsX4_fitting_r1 : List Cond := [Cond.fieldLink RX4 160 "UpWhenDies" "toldSize" "I", Cond.fieldLink RX4 10 "UpWhenDies" "now" "LUpWhenDies$Tower;", Cond.methodLink RX4 43 yX4_refuse, Cond.instanceMethod yX4_refuse, Cond.selects RX4 yX4_refuse yX4_refuse, Cond.initialized RX4, Cond.code yX4_refuse cX4_refuse 3 (some .int), Cond.fieldLink RX4 40 "UpWhenDies" "refused" "[I", Cond.methodLink RX4 136 yX3_living, Cond.instanceMethod yX3_living, Cond.selects RX3 yX3_living yX3_living, Cond.initialized RX3, Cond.code yX3_living cX3_living 3 (some .int), Cond.methodLink RX3 38 yX3_isAlive, Cond.instanceMethod yX3_isAlive, Cond.selects RX3 yX3_isAlive yX3_isAlive, Cond.code yX3_isAlive cX3_isAlive 2 (some .boolean), Cond.fieldLink RX3 27 "UpWhenDies$Tower" "came" "I", Cond.fieldLink RX3 18 "UpWhenDies$Tower" "floor" "[I", Cond.methodLink RX4 163 yJ6_bitCount_0f7a4, Cond.static yJ6_bitCount_0f7a4, Cond.initialized RJ6, Cond.code yJ6_bitCount_0f7a4 cJ6_bitCount_0f7a4 1 (some .int), Cond.constant RJ6 265 (1431655765)]
def wsX4_fitting_r2 : List Cond := [Cond.constant RJ6 266 (858993459), Cond.constant RJ6 267 (252645135), Cond.methodLink RX4 105 yX3_areAlive, Cond.instanceMethod yX3_areAlive, Cond.selects RX3 yX3_areAlive yX3_areAlive, Cond.code yX3_areAlive cX3_areAlive 2 (some .boolean), Cond.methodLink RX3 34 yX3_living, Cond.methodLink RX4 168 yX4_fitsTheRow, Cond.instanceMethod yX4_fitsTheRow, Cond.selects RX4 yX4_fitsTheRow yX4_fitsTheRow, Cond.code yX4_fitsTheRow cX4_fitsTheRow 6 (some .boolean), Cond.fieldLink RX4 83 "UpWhenDies$Tower" "floor" "[I", Cond.fieldLink RX4 36 "UpWhenDies" "told" "[I", Cond.methodLink RX4 139 yX3_floorsOf, Cond.instanceMethod yX3_floorsOf, Cond.selects RX3 yX3_floorsOf yX3_floorsOf, Cond.code yX3_floorsOf cX3_floorsOf 4 (some .int), Cond.methodLink RX3 68 yX3_holds, Cond.static yX3_holds, Cond.code yX3_holds cX3_holds 2 (some .boolean), Cond.methodLink RX4 74 yX3_isAlive, Cond.methodLink RX4 207 yX3_holds, Cond.methodLink RX4 142 yX3_floorsUp, Cond.instanceMethod yX3_floorsUp]
def wsX4_fitting_r3 : List Cond := [Cond.selects RX3 yX3_floorsUp yX3_floorsUp, Cond.code yX3_floorsUp cX3_floorsUp 3 (some .int), Cond.methodLink RX3 72 yX3_staysDown, Cond.instanceMethod yX3_staysDown, Cond.selects RX3 yX3_staysDown yX3_staysDown, Cond.code yX3_staysDown cX3_staysDown 2 (some .boolean), Cond.fieldLink RX3 9 "UpWhenDies$Tower" "kind" "[I", Cond.methodLink RX3 75 yJ6_bitCount_0f7a4]
def wsX4_fitting : List Cond := .code yX4_fitting cX4_fitting 5 (some .int) :: ((wsX4_fitting_r1 ++ (wsX4_fitting_r2 ++ wsX4_fitting_r3)) ++ wsX40 ++ wsX30)
def wsX4_firstNotSo : List Cond := .code yX4_firstNotSo cX4_firstNotSo 3 (some .int) :: ([.fieldLink RX4 10 "UpWhenDies" "now" "LUpWhenDies$Tower;", .fieldLink RX4 160 "UpWhenDies" "toldSize" "I", .fieldLink RX4 36 "UpWhenDies" "told" "[I", .fieldLink RX4 83 "UpWhenDies$Tower" "floor" "[I", .methodLink RX4 74 yX3_isAlive, .instanceMethod yX3_isAlive, .selects RX3 yX3_isAlive yX3_isAlive, .initialized RX3, .code yX3_isAlive cX3_isAlive 2 (some .boolean), .fieldLink RX3 27 "UpWhenDies$Tower" "came" "I", .fieldLink RX3 18 "UpWhenDies$Tower" "floor" "[I"] ++ wsX40 ++ wsX30)
def wsX4_judge : List Cond := .code yX4_judge cX4_judge 2 (some .int) :: ([.fieldLink RX4 160 "UpWhenDies" "toldSize" "I", .methodLink RX4 171 yX4_firstNotSo, .instanceMethod yX4_firstNotSo, .selects RX4 yX4_firstNotSo yX4_firstNotSo, .initialized RX4, .code yX4_firstNotSo cX4_firstNotSo 3 (some .int), .fieldLink RX4 10 "UpWhenDies" "now" "LUpWhenDies$Tower;", .fieldLink RX4 36 "UpWhenDies" "told" "[I", .fieldLink RX4 83 "UpWhenDies$Tower" "floor" "[I", .methodLink RX4 74 yX3_isAlive, .instanceMethod yX3_isAlive, .selects RX3 yX3_isAlive yX3_isAlive, .initialized RX3, .code yX3_isAlive cX3_isAlive 2 (some .boolean), .fieldLink RX3 27 "UpWhenDies$Tower" "came" "I", .fieldLink RX3 18 "UpWhenDies$Tower" "floor" "[I"] ++ wsX40 ++ wsX30)
def wsX4_lots_r1 : List Cond := [Cond.fieldLink RX4 10 "UpWhenDies" "now" "LUpWhenDies$Tower;", Cond.methodLink RX4 43 yX4_refuse, Cond.instanceMethod yX4_refuse, Cond.selects RX4 yX4_refuse yX4_refuse, Cond.initialized RX4, Cond.code yX4_refuse cX4_refuse 3 (some .int), Cond.fieldLink RX4 40 "UpWhenDies" "refused" "[I", Cond.methodLink RX4 174 yX3_livingByLot, Cond.instanceMethod yX3_livingByLot, Cond.selects RX3 yX3_livingByLot yX3_livingByLot, Cond.initialized RX3, Cond.code yX3_livingByLot cX3_livingByLot 8 (some .int), Cond.constant RX3 95 (1664525), Cond.constant RX3 96 (1013904223), Cond.constant RX3 97 (2147483647), Cond.methodLink RX3 34 yX3_living, Cond.instanceMethod yX3_living, Cond.selects RX3 yX3_living yX3_living, Cond.code yX3_living cX3_living 3 (some .int), Cond.methodLink RX3 38 yX3_isAlive, Cond.instanceMethod yX3_isAlive, Cond.selects RX3 yX3_isAlive yX3_isAlive, Cond.code yX3_isAlive cX3_isAlive 2 (some .boolean), Cond.fieldLink RX3 27 "UpWhenDies$Tower" "came" "I"]
def wsX4_lots_r2 : List Cond := [Cond.fieldLink RX3 18 "UpWhenDies$Tower" "floor" "[I", Cond.methodLink RX3 68 yX3_holds, Cond.static yX3_holds, Cond.code yX3_holds cX3_holds 2 (some .boolean), Cond.methodLink RX3 86 yX3_chanceAfter, Cond.instanceMethod yX3_chanceAfter, Cond.selects RX3 yX3_chanceAfter yX3_chanceAfter, Cond.code yX3_chanceAfter cX3_chanceAfter 3 (some .int), Cond.fieldLink RX3 9 "UpWhenDies$Tower" "kind" "[I", Cond.methodLink RX3 56 yX3_ageAfter, Cond.instanceMethod yX3_ageAfter, Cond.selects RX3 yX3_ageAfter yX3_ageAfter, Cond.code yX3_ageAfter cX3_ageAfter 3 (some .int), Cond.fieldLink RX3 15 "UpWhenDies$Tower" "age" "[I", Cond.methodLink RX3 98 Lib.Math.min.name, Cond.static Lib.Math.min.name, Cond.initialized "java/lang/Math", Cond.code Lib.Math.min.name Lib.Math.min.code 2 (some .int), Cond.methodLink RX3 59 yX0_chance, Cond.static yX0_chance, Cond.initialized RX0, Cond.code yX0_chance cX0_chance 3 (some .int), Cond.methodLink RX0 11 Lib.Math.max.name, Cond.static Lib.Math.max.name]
def wsX4_lots_r3 : List Cond := [Cond.code Lib.Math.max.name Lib.Math.max.code 2 (some .int), Cond.methodLink RX0 17 yX0_strongChance, Cond.static yX0_strongChance, Cond.code yX0_strongChance cX0_strongChance 1 (some .int), Cond.methodLink RX0 21 yX0_illChance, Cond.static yX0_illChance, Cond.code yX0_illChance cX0_illChance 1 (some .int), Cond.methodLink RX0 24 Lib.Math.min.name]
def wsX4_lots : List Cond := .code yX4_lots cX4_lots 3 (some .int) :: ((wsX4_lots_r1 ++ (wsX4_lots_r2 ++ wsX4_lots_r3)) ++ wsX40 ++ wsX30)
def wsX4_image : List Cond := .code yX4_image cX4_image 1 (some .int) :: ([.fieldLink RX4 19 "UpWhenDies" "kept" "LUpWhenDies$Tower;", .fieldLink RX4 10 "UpWhenDies" "now" "LUpWhenDies$Tower;", .fieldLink RX4 181 "UpWhenDies" "hasImage" "Z", .fieldLink RX4 108 "UpWhenDies$Tower" "yearNow" "I", .methodLink RX4 177 yX3_becomeLike, .instanceMethod yX3_becomeLike, .selects RX3 yX3_becomeLike yX3_becomeLike, .initialized RX3, .code yX3_becomeLike cX3_becomeLike 3 none, .fieldLink RX3 9 "UpWhenDies$Tower" "kind" "[I", .fieldLink RX3 15 "UpWhenDies$Tower" "age" "[I", .fieldLink RX3 18 "UpWhenDies$Tower" "floor" "[I", .fieldLink RX3 21 "UpWhenDies$Tower" "load" "[I", .fieldLink RX3 24 "UpWhenDies$Tower" "wished" "[I", .fieldLink RX3 27 "UpWhenDies$Tower" "came" "I", .fieldLink RX3 31 "UpWhenDies$Tower" "yearNow" "I"] ++ wsX40 ++ wsX30)
def wsX4_back : List Cond := .code yX4_back cX4_back 1 (some .int) :: ([.fieldLink RX4 181 "UpWhenDies" "hasImage" "Z", .fieldLink RX4 10 "UpWhenDies" "now" "LUpWhenDies$Tower;", .fieldLink RX4 19 "UpWhenDies" "kept" "LUpWhenDies$Tower;", .fieldLink RX4 108 "UpWhenDies$Tower" "yearNow" "I", .methodLink RX4 43 yX4_refuse, .instanceMethod yX4_refuse, .selects RX4 yX4_refuse yX4_refuse, .initialized RX4, .code yX4_refuse cX4_refuse 3 (some .int), .fieldLink RX4 40 "UpWhenDies" "refused" "[I", .methodLink RX4 177 yX3_becomeLike, .instanceMethod yX3_becomeLike, .selects RX3 yX3_becomeLike yX3_becomeLike, .initialized RX3, .code yX3_becomeLike cX3_becomeLike 3 none, .fieldLink RX3 9 "UpWhenDies$Tower" "kind" "[I", .fieldLink RX3 15 "UpWhenDies$Tower" "age" "[I", .fieldLink RX3 18 "UpWhenDies$Tower" "floor" "[I", .fieldLink RX3 21 "UpWhenDies$Tower" "load" "[I", .fieldLink RX3 24 "UpWhenDies$Tower" "wished" "[I", .fieldLink RX3 27 "UpWhenDies$Tower" "came" "I", .fieldLink RX3 31 "UpWhenDies$Tower" "yearNow" "I"] ++ wsX40 ++ wsX30)
def wsX4_count_r1 : List Cond := [Cond.fieldLink RX4 10 "UpWhenDies" "now" "LUpWhenDies$Tower;", Cond.fieldLink RX4 185 "UpWhenDies$Tower" "came" "I", Cond.fieldLink RX4 108 "UpWhenDies$Tower" "yearNow" "I", Cond.fieldLink RX4 86 "UpWhenDies$Tower" "load" "[I", Cond.fieldLink RX4 80 "UpWhenDies$Tower" "age" "[I", Cond.fieldLink RX4 160 "UpWhenDies" "toldSize" "I", Cond.fieldLink RX4 25 "UpWhenDies" "telling" "LUpWhenDies$Telling;", Cond.fieldLink RX4 192 "UpWhenDies$Telling" "size" "I", Cond.fieldLink RX4 40 "UpWhenDies" "refused" "[I", Cond.methodLink RX4 136 yX3_living, Cond.instanceMethod yX3_living, Cond.selects RX3 yX3_living yX3_living, Cond.initialized RX3, Cond.code yX3_living cX3_living 3 (some .int), Cond.methodLink RX3 38 yX3_isAlive, Cond.instanceMethod yX3_isAlive, Cond.selects RX3 yX3_isAlive yX3_isAlive, Cond.code yX3_isAlive cX3_isAlive 2 (some .boolean), Cond.fieldLink RX3 27 "UpWhenDies$Tower" "came" "I", Cond.fieldLink RX3 18 "UpWhenDies$Tower" "floor" "[I", Cond.methodLink RX4 163 yJ6_bitCount_0f7a4, Cond.static yJ6_bitCount_0f7a4, Cond.initialized RJ6, Cond.code yJ6_bitCount_0f7a4 cJ6_bitCount_0f7a4 1 (some .int)]
def wsX4_count_r2 : List Cond := [Cond.constant RJ6 265 (1431655765), Cond.constant RJ6 266 (858993459), Cond.constant RJ6 267 (252645135), Cond.methodLink RX4 188 yX3_sumOfLiving, Cond.instanceMethod yX3_sumOfLiving, Cond.selects RX3 yX3_sumOfLiving yX3_sumOfLiving, Cond.code yX3_sumOfLiving cX3_sumOfLiving 4 (some .int)]
def wsX4_count : List Cond := .code yX4_count cX4_count 2 (some .int) :: ((wsX4_count_r1 ++ wsX4_count_r2) ++ wsX40 ++ wsX30 ++ wsX20)
def wsX5_init : List Cond := .code yX5_init cX5_init 1 none :: ([.methodLink RX5 1 objectInit, .instanceMethod objectInit, .code objectInit ⟨#[0xb1]⟩ 1 none, .arrayClass .int, .fieldLink RX5 7 "UpWhenDiesModel" "refused" "[I", .fieldLink RX5 13 "UpWhenDiesModel" "kind" "[I", .fieldLink RX5 16 "UpWhenDiesModel" "age" "[I", .fieldLink RX5 19 "UpWhenDiesModel" "floorOf" "[I", .fieldLink RX5 22 "UpWhenDiesModel" "load" "[I", .fieldLink RX5 25 "UpWhenDiesModel" "wishOf" "[I", .fieldLink RX5 28 "UpWhenDiesModel" "tape" "[I", .fieldLink RX5 31 "UpWhenDiesModel" "letter" "[I", .fieldLink RX5 34 "UpWhenDiesModel" "letterAt" "[I", .fieldLink RX5 37 "UpWhenDiesModel" "number" "[I", .fieldLink RX5 40 "UpWhenDiesModel" "from" "[I", .fieldLink RX5 43 "UpWhenDiesModel" "till" "[I", .fieldLink RX5 46 "UpWhenDiesModel" "kept" "[I", .fieldLink RX5 49 "UpWhenDiesModel" "moving" "[I", .fieldLink RX5 52 "UpWhenDiesModel" "row" "[I"] ++ wsX50)
def wsX5_no : List Cond := .code yX5_no cX5_no 2 (some .int) :: ([.fieldLink RX5 7 "UpWhenDiesModel" "refused" "[I"] ++ wsX50)
def wsX5_lowest : List Cond := .code yX5_lowest cX5_lowest 2 (some .long) :: ([.fieldLink RX5 7 "UpWhenDiesModel" "refused" "[I", .constantLong RX5 55 (4000000000000000000)] ++ wsX50)
def wsX5_isIn : List Cond := .code yX5_isIn cX5_isIn 3 (some .boolean) :: ([])
def wsX5_bound : List Cond := .code yX5_bound cX5_bound 3 (some .int) :: ([])
def wsX5_least : List Cond := .code yX5_least cX5_least 2 (some .int) :: ([])
def wsX5_isAlive : List Cond := .code yX5_isAlive cX5_isAlive 2 (some .boolean) :: ([.fieldLink RX5 57 "UpWhenDiesModel" "lodgers" "I", .fieldLink RX5 19 "UpWhenDiesModel" "floorOf" "[I"] ++ wsX50)
def wsX5_isFloor : List Cond := .code yX5_isFloor cX5_isFloor 1 (some .boolean) :: ([])
def wsX5_whoOn : List Cond := .code yX5_whoOn cX5_whoOn 3 (some .int) :: ([.fieldLink RX5 57 "UpWhenDiesModel" "lodgers" "I", .fieldLink RX5 19 "UpWhenDiesModel" "floorOf" "[I"] ++ wsX50)
def wsX5_aliveBits : List Cond := .code yX5_aliveBits cX5_aliveBits 3 (some .int) :: ([.fieldLink RX5 57 "UpWhenDiesModel" "lodgers" "I", .fieldLink RX5 19 "UpWhenDiesModel" "floorOf" "[I"] ++ wsX50)
def wsX5_bits : List Cond := .code yX5_bits cX5_bits 3 (some .int) :: ([])
def wsX5_letter : List Cond := .code yX5_letter cX5_letter 3 (some .int) :: ([.fieldLink RX5 65 "UpWhenDiesModel" "taped" "I", .fieldLink RX5 28 "UpWhenDiesModel" "tape" "[I", .methodLink RX5 61 yX5_bound, .static yX5_bound, .initialized RX5, .code yX5_bound cX5_bound 3 (some .int), .methodLink RX5 68 yX5_no, .instanceMethod yX5_no, .selects RX5 yX5_no yX5_no, .code yX5_no cX5_no 2 (some .int), .fieldLink RX5 7 "UpWhenDiesModel" "refused" "[I"] ++ wsX50)
def wsX5_next : List Cond := .code yX5_next cX5_next 1 (some .int) :: ([.fieldLink RX5 72 "UpWhenDiesModel" "at" "I", .fieldLink RX5 65 "UpWhenDiesModel" "taped" "I", .fieldLink RX5 28 "UpWhenDiesModel" "tape" "[I"] ++ wsX50)
def wsX5_isDigit : List Cond := .code yX5_isDigit cX5_isDigit 1 (some .boolean) :: ([.methodLink RX5 75 yX5_next, .instanceMethod yX5_next, .selects RX5 yX5_next yX5_next, .initialized RX5, .code yX5_next cX5_next 1 (some .int), .fieldLink RX5 72 "UpWhenDiesModel" "at" "I", .fieldLink RX5 65 "UpWhenDiesModel" "taped" "I", .fieldLink RX5 28 "UpWhenDiesModel" "tape" "[I", .methodLink RX5 79 yX5_isIn, .static yX5_isIn, .code yX5_isIn cX5_isIn 3 (some .boolean)] ++ wsX50)
def wsX5_readsNumber : List Cond := .code yX5_readsNumber cX5_readsNumber 5 (some .boolean) :: ([.fieldLink RX5 72 "UpWhenDiesModel" "at" "I", .fieldLink RX5 37 "UpWhenDiesModel" "number" "[I", .methodLink RX5 83 yX5_isDigit, .instanceMethod yX5_isDigit, .selects RX5 yX5_isDigit yX5_isDigit, .initialized RX5, .code yX5_isDigit cX5_isDigit 1 (some .boolean), .methodLink RX5 75 yX5_next, .instanceMethod yX5_next, .selects RX5 yX5_next yX5_next, .code yX5_next cX5_next 1 (some .int), .fieldLink RX5 65 "UpWhenDiesModel" "taped" "I", .fieldLink RX5 28 "UpWhenDiesModel" "tape" "[I", .methodLink RX5 79 yX5_isIn, .static yX5_isIn, .code yX5_isIn cX5_isIn 3 (some .boolean)] ++ wsX50)
def wsX5_kindOf : List Cond := .code yX5_kindOf cX5_kindOf 1 (some .int) :: ([])
def wsX5_readsLodger : List Cond := .code yX5_readsLodger cX5_readsLodger 2 (some .boolean) :: ([.fieldLink RX5 37 "UpWhenDiesModel" "number" "[I", .fieldLink RX5 72 "UpWhenDiesModel" "at" "I", .methodLink RX5 75 yX5_next, .instanceMethod yX5_next, .selects RX5 yX5_next yX5_next, .initialized RX5, .code yX5_next cX5_next 1 (some .int), .fieldLink RX5 65 "UpWhenDiesModel" "taped" "I", .fieldLink RX5 28 "UpWhenDiesModel" "tape" "[I", .methodLink RX5 87 yX5_kindOf, .static yX5_kindOf, .code yX5_kindOf cX5_kindOf 1 (some .int), .methodLink RX5 90 yX5_readsNumber, .instanceMethod yX5_readsNumber, .selects RX5 yX5_readsNumber yX5_readsNumber, .code yX5_readsNumber cX5_readsNumber 5 (some .boolean), .methodLink RX5 83 yX5_isDigit, .instanceMethod yX5_isDigit, .selects RX5 yX5_isDigit yX5_isDigit, .code yX5_isDigit cX5_isDigit 1 (some .boolean), .methodLink RX5 79 yX5_isIn, .static yX5_isIn, .code yX5_isIn cX5_isIn 3 (some .boolean)] ++ wsX50)
def wsX5_readsDeaths : List Cond := .code yX5_readsDeaths cX5_readsDeaths 1 (some .boolean) :: ([.fieldLink RX5 40 "UpWhenDiesModel" "from" "[I", .fieldLink RX5 94 "UpWhenDiesModel" "statements" "I", .fieldLink RX5 72 "UpWhenDiesModel" "at" "I", .fieldLink RX5 43 "UpWhenDiesModel" "till" "[I", .methodLink RX5 83 yX5_isDigit, .instanceMethod yX5_isDigit, .selects RX5 yX5_isDigit yX5_isDigit, .initialized RX5, .code yX5_isDigit cX5_isDigit 1 (some .boolean), .methodLink RX5 75 yX5_next, .instanceMethod yX5_next, .selects RX5 yX5_next yX5_next, .code yX5_next cX5_next 1 (some .int), .fieldLink RX5 65 "UpWhenDiesModel" "taped" "I", .fieldLink RX5 28 "UpWhenDiesModel" "tape" "[I", .methodLink RX5 79 yX5_isIn, .static yX5_isIn, .code yX5_isIn cX5_isIn 3 (some .boolean)] ++ wsX50)
def wsX5_statement_r1 : List Cond := [Cond.fieldLink RX5 31 "UpWhenDiesModel" "letter" "[I", Cond.fieldLink RX5 94 "UpWhenDiesModel" "statements" "I", Cond.fieldLink RX5 34 "UpWhenDiesModel" "letterAt" "[I", Cond.fieldLink RX5 72 "UpWhenDiesModel" "at" "I", Cond.methodLink RX5 75 yX5_next, Cond.instanceMethod yX5_next, Cond.selects RX5 yX5_next yX5_next, Cond.initialized RX5, Cond.code yX5_next cX5_next 1 (some .int), Cond.fieldLink RX5 65 "UpWhenDiesModel" "taped" "I", Cond.fieldLink RX5 28 "UpWhenDiesModel" "tape" "[I", Cond.methodLink RX5 97 yX5_readsLodger, Cond.instanceMethod yX5_readsLodger, Cond.selects RX5 yX5_readsLodger yX5_readsLodger, Cond.code yX5_readsLodger cX5_readsLodger 2 (some .boolean), Cond.fieldLink RX5 37 "UpWhenDiesModel" "number" "[I", Cond.methodLink RX5 87 yX5_kindOf, Cond.static yX5_kindOf, Cond.code yX5_kindOf cX5_kindOf 1 (some .int), Cond.methodLink RX5 90 yX5_readsNumber, Cond.instanceMethod yX5_readsNumber, Cond.selects RX5 yX5_readsNumber yX5_readsNumber, Cond.code yX5_readsNumber cX5_readsNumber 5 (some .boolean), Cond.methodLink RX5 83 yX5_isDigit]
def wsX5_statement_r2 : List Cond := [Cond.instanceMethod yX5_isDigit, Cond.selects RX5 yX5_isDigit yX5_isDigit, Cond.code yX5_isDigit cX5_isDigit 1 (some .boolean), Cond.methodLink RX5 79 yX5_isIn, Cond.static yX5_isIn, Cond.code yX5_isIn cX5_isIn 3 (some .boolean), Cond.methodLink RX5 101 yX5_readsDeaths, Cond.instanceMethod yX5_readsDeaths, Cond.selects RX5 yX5_readsDeaths yX5_readsDeaths, Cond.code yX5_readsDeaths cX5_readsDeaths 1 (some .boolean), Cond.fieldLink RX5 40 "UpWhenDiesModel" "from" "[I", Cond.fieldLink RX5 43 "UpWhenDiesModel" "till" "[I"]
def wsX5_statement : List Cond := .code yX5_statement cX5_statement 4 (some .boolean) :: ((wsX5_statement_r1 ++ wsX5_statement_r2) ++ wsX50)
def wsX5_movesOf : List Cond := .code yX5_movesOf cX5_movesOf 5 (some .int) :: ([.fieldLink RX5 19 "UpWhenDiesModel" "floorOf" "[I", .fieldLink RX5 13 "UpWhenDiesModel" "kind" "[I", .fieldLink RX5 57 "UpWhenDiesModel" "lodgers" "I"] ++ wsX50)
def wsX5_goesYear : List Cond := .code yX5_goesYear cX5_goesYear 4 (some .int) :: ([.fieldLink RX5 57 "UpWhenDiesModel" "lodgers" "I", .fieldLink RX5 49 "UpWhenDiesModel" "moving" "[I", .fieldLink RX5 19 "UpWhenDiesModel" "floorOf" "[I", .fieldLink RX5 16 "UpWhenDiesModel" "age" "[I", .fieldLink RX5 107 "UpWhenDiesModel" "year" "I", .methodLink RX5 156 yX5_movesOf, .instanceMethod yX5_movesOf, .selects RX5 yX5_movesOf yX5_movesOf, .initialized RX5, .code yX5_movesOf cX5_movesOf 5 (some .int), .fieldLink RX5 13 "UpWhenDiesModel" "kind" "[I", .methodLink RX5 153 yX5_least, .static yX5_least, .code yX5_least cX5_least 2 (some .int)] ++ wsX50)
def wsX5_comesYear_r1 : List Cond := [Cond.fieldLink RX5 40 "UpWhenDiesModel" "from" "[I", Cond.fieldLink RX5 43 "UpWhenDiesModel" "till" "[I", Cond.fieldLink RX5 28 "UpWhenDiesModel" "tape" "[I", Cond.fieldLink RX5 107 "UpWhenDiesModel" "year" "I", Cond.methodLink RX5 104 yX5_isAlive, Cond.instanceMethod yX5_isAlive, Cond.selects RX5 yX5_isAlive yX5_isAlive, Cond.initialized RX5, Cond.code yX5_isAlive cX5_isAlive 2 (some .boolean), Cond.fieldLink RX5 57 "UpWhenDiesModel" "lodgers" "I", Cond.fieldLink RX5 19 "UpWhenDiesModel" "floorOf" "[I", Cond.methodLink RX5 110 yX5_goesYear, Cond.instanceMethod yX5_goesYear, Cond.selects RX5 yX5_goesYear yX5_goesYear, Cond.code yX5_goesYear cX5_goesYear 4 (some .int), Cond.fieldLink RX5 49 "UpWhenDiesModel" "moving" "[I", Cond.fieldLink RX5 16 "UpWhenDiesModel" "age" "[I", Cond.methodLink RX5 156 yX5_movesOf, Cond.instanceMethod yX5_movesOf, Cond.selects RX5 yX5_movesOf yX5_movesOf, Cond.code yX5_movesOf cX5_movesOf 5 (some .int), Cond.fieldLink RX5 13 "UpWhenDiesModel" "kind" "[I", Cond.methodLink RX5 153 yX5_least, Cond.static yX5_least]
def wsX5_comesYear_r2 : List Cond := [Cond.code yX5_least cX5_least 2 (some .int)]
def wsX5_comesYear : List Cond := .code yX5_comesYear cX5_comesYear 5 (some .boolean) :: ((wsX5_comesYear_r1 ++ wsX5_comesYear_r2) ++ wsX50)
def wsX5_entryOf : List Cond := .code yX5_entryOf cX5_entryOf 3 (some .int) :: ([])
def wsX5_comesIn : List Cond := .code yX5_comesIn cX5_comesIn 5 (some .boolean) :: ([.fieldLink RX5 57 "UpWhenDiesModel" "lodgers" "I", .fieldLink RX5 13 "UpWhenDiesModel" "kind" "[I", .fieldLink RX5 16 "UpWhenDiesModel" "age" "[I", .fieldLink RX5 19 "UpWhenDiesModel" "floorOf" "[I", .fieldLink RX5 22 "UpWhenDiesModel" "load" "[I", .fieldLink RX5 25 "UpWhenDiesModel" "wishOf" "[I", .methodLink RX5 113 yX5_entryOf, .static yX5_entryOf, .initialized RX5, .code yX5_entryOf cX5_entryOf 3 (some .int), .methodLink RX5 117 yX5_whoOn, .instanceMethod yX5_whoOn, .selects RX5 yX5_whoOn yX5_whoOn, .code yX5_whoOn cX5_whoOn 3 (some .int)] ++ wsX50)
def wsX5_comes_r1 : List Cond := [Cond.fieldLink RX5 31 "UpWhenDiesModel" "letter" "[I", Cond.fieldLink RX5 37 "UpWhenDiesModel" "number" "[I", Cond.fieldLink RX5 25 "UpWhenDiesModel" "wishOf" "[I", Cond.methodLink RX5 120 yX5_comesIn, Cond.instanceMethod yX5_comesIn, Cond.selects RX5 yX5_comesIn yX5_comesIn, Cond.initialized RX5, Cond.code yX5_comesIn cX5_comesIn 5 (some .boolean), Cond.fieldLink RX5 57 "UpWhenDiesModel" "lodgers" "I", Cond.fieldLink RX5 13 "UpWhenDiesModel" "kind" "[I", Cond.fieldLink RX5 16 "UpWhenDiesModel" "age" "[I", Cond.fieldLink RX5 19 "UpWhenDiesModel" "floorOf" "[I", Cond.fieldLink RX5 22 "UpWhenDiesModel" "load" "[I", Cond.methodLink RX5 113 yX5_entryOf, Cond.static yX5_entryOf, Cond.code yX5_entryOf cX5_entryOf 3 (some .int), Cond.methodLink RX5 117 yX5_whoOn, Cond.instanceMethod yX5_whoOn, Cond.selects RX5 yX5_whoOn yX5_whoOn, Cond.code yX5_whoOn cX5_whoOn 3 (some .int), Cond.methodLink RX5 123 yX5_comesYear, Cond.instanceMethod yX5_comesYear, Cond.selects RX5 yX5_comesYear yX5_comesYear, Cond.code yX5_comesYear cX5_comesYear 5 (some .boolean)]
def wsX5_comes_r2 : List Cond := [Cond.fieldLink RX5 40 "UpWhenDiesModel" "from" "[I", Cond.fieldLink RX5 43 "UpWhenDiesModel" "till" "[I", Cond.fieldLink RX5 28 "UpWhenDiesModel" "tape" "[I", Cond.fieldLink RX5 107 "UpWhenDiesModel" "year" "I", Cond.methodLink RX5 104 yX5_isAlive, Cond.instanceMethod yX5_isAlive, Cond.selects RX5 yX5_isAlive yX5_isAlive, Cond.code yX5_isAlive cX5_isAlive 2 (some .boolean), Cond.methodLink RX5 110 yX5_goesYear, Cond.instanceMethod yX5_goesYear, Cond.selects RX5 yX5_goesYear yX5_goesYear, Cond.code yX5_goesYear cX5_goesYear 4 (some .int), Cond.fieldLink RX5 49 "UpWhenDiesModel" "moving" "[I", Cond.methodLink RX5 156 yX5_movesOf, Cond.instanceMethod yX5_movesOf, Cond.selects RX5 yX5_movesOf yX5_movesOf, Cond.code yX5_movesOf cX5_movesOf 5 (some .int), Cond.methodLink RX5 153 yX5_least, Cond.static yX5_least, Cond.code yX5_least cX5_least 2 (some .int)]
def wsX5_comes : List Cond := .code yX5_comes cX5_comes 3 (some .boolean) :: ((wsX5_comes_r1 ++ wsX5_comes_r2) ++ wsX50)
def wsX5_passes : List Cond := .code yX5_passes cX5_passes 3 none :: ([.fieldLink RX5 136 "UpWhenDiesModel" "isKeeping" "Z", .fieldLink RX5 46 "UpWhenDiesModel" "kept" "[I", .fieldLink RX5 140 "UpWhenDiesModel" "cursor" "I"] ++ wsX50)
def wsX5_passOne : List Cond := .code yX5_passOne cX5_passOne 3 (some .int) :: ([.fieldLink RX5 136 "UpWhenDiesModel" "isKeeping" "Z", .fieldLink RX5 46 "UpWhenDiesModel" "kept" "[I", .fieldLink RX5 140 "UpWhenDiesModel" "cursor" "I"] ++ wsX50)
def wsX5_passesAll : List Cond := .code yX5_passesAll cX5_passesAll 3 none :: ([.fieldLink RX5 140 "UpWhenDiesModel" "cursor" "I", .fieldLink RX5 136 "UpWhenDiesModel" "isKeeping" "Z", .fieldLink RX5 13 "UpWhenDiesModel" "kind" "[I", .fieldLink RX5 16 "UpWhenDiesModel" "age" "[I", .fieldLink RX5 19 "UpWhenDiesModel" "floorOf" "[I", .fieldLink RX5 22 "UpWhenDiesModel" "load" "[I", .fieldLink RX5 25 "UpWhenDiesModel" "wishOf" "[I", .fieldLink RX5 57 "UpWhenDiesModel" "lodgers" "I", .fieldLink RX5 107 "UpWhenDiesModel" "year" "I", .methodLink RX5 143 yX5_passes, .instanceMethod yX5_passes, .selects RX5 yX5_passes yX5_passes, .initialized RX5, .code yX5_passes cX5_passes 3 none, .fieldLink RX5 46 "UpWhenDiesModel" "kept" "[I", .methodLink RX5 147 yX5_passOne, .instanceMethod yX5_passOne, .selects RX5 yX5_passOne yX5_passOne, .code yX5_passOne cX5_passOne 3 (some .int)] ++ wsX50)
def wsX5_house_r1 : List Cond := [Cond.fieldLink RX5 72 "UpWhenDiesModel" "at" "I", Cond.fieldLink RX5 94 "UpWhenDiesModel" "statements" "I", Cond.fieldLink RX5 65 "UpWhenDiesModel" "taped" "I", Cond.fieldLink RX5 34 "UpWhenDiesModel" "letterAt" "[I", Cond.methodLink RX5 126 yX5_statement, Cond.instanceMethod yX5_statement, Cond.selects RX5 yX5_statement yX5_statement, Cond.initialized RX5, Cond.code yX5_statement cX5_statement 4 (some .boolean), Cond.fieldLink RX5 31 "UpWhenDiesModel" "letter" "[I", Cond.methodLink RX5 75 yX5_next, Cond.instanceMethod yX5_next, Cond.selects RX5 yX5_next yX5_next, Cond.code yX5_next cX5_next 1 (some .int), Cond.fieldLink RX5 28 "UpWhenDiesModel" "tape" "[I", Cond.methodLink RX5 97 yX5_readsLodger, Cond.instanceMethod yX5_readsLodger, Cond.selects RX5 yX5_readsLodger yX5_readsLodger, Cond.code yX5_readsLodger cX5_readsLodger 2 (some .boolean), Cond.fieldLink RX5 37 "UpWhenDiesModel" "number" "[I", Cond.methodLink RX5 87 yX5_kindOf, Cond.static yX5_kindOf, Cond.code yX5_kindOf cX5_kindOf 1 (some .int), Cond.methodLink RX5 90 yX5_readsNumber]
def wsX5_house_r2 : List Cond := [Cond.instanceMethod yX5_readsNumber, Cond.selects RX5 yX5_readsNumber yX5_readsNumber, Cond.code yX5_readsNumber cX5_readsNumber 5 (some .boolean), Cond.methodLink RX5 83 yX5_isDigit, Cond.instanceMethod yX5_isDigit, Cond.selects RX5 yX5_isDigit yX5_isDigit, Cond.code yX5_isDigit cX5_isDigit 1 (some .boolean), Cond.methodLink RX5 79 yX5_isIn, Cond.static yX5_isIn, Cond.code yX5_isIn cX5_isIn 3 (some .boolean), Cond.methodLink RX5 101 yX5_readsDeaths, Cond.instanceMethod yX5_readsDeaths, Cond.selects RX5 yX5_readsDeaths yX5_readsDeaths, Cond.code yX5_readsDeaths cX5_readsDeaths 1 (some .boolean), Cond.fieldLink RX5 40 "UpWhenDiesModel" "from" "[I", Cond.fieldLink RX5 43 "UpWhenDiesModel" "till" "[I", Cond.methodLink RX5 129 yX5_passesAll, Cond.instanceMethod yX5_passesAll, Cond.selects RX5 yX5_passesAll yX5_passesAll, Cond.code yX5_passesAll cX5_passesAll 3 none, Cond.fieldLink RX5 140 "UpWhenDiesModel" "cursor" "I", Cond.fieldLink RX5 136 "UpWhenDiesModel" "isKeeping" "Z", Cond.fieldLink RX5 13 "UpWhenDiesModel" "kind" "[I", Cond.fieldLink RX5 16 "UpWhenDiesModel" "age" "[I"]
def wsX5_house_r3 : List Cond := [Cond.fieldLink RX5 19 "UpWhenDiesModel" "floorOf" "[I", Cond.fieldLink RX5 22 "UpWhenDiesModel" "load" "[I", Cond.fieldLink RX5 25 "UpWhenDiesModel" "wishOf" "[I", Cond.fieldLink RX5 57 "UpWhenDiesModel" "lodgers" "I", Cond.fieldLink RX5 107 "UpWhenDiesModel" "year" "I", Cond.methodLink RX5 143 yX5_passes, Cond.instanceMethod yX5_passes, Cond.selects RX5 yX5_passes yX5_passes, Cond.code yX5_passes cX5_passes 3 none, Cond.fieldLink RX5 46 "UpWhenDiesModel" "kept" "[I", Cond.methodLink RX5 147 yX5_passOne, Cond.instanceMethod yX5_passOne, Cond.selects RX5 yX5_passOne yX5_passOne, Cond.code yX5_passOne cX5_passOne 3 (some .int), Cond.methodLink RX5 133 yX5_comes, Cond.instanceMethod yX5_comes, Cond.selects RX5 yX5_comes yX5_comes, Cond.code yX5_comes cX5_comes 3 (some .boolean), Cond.methodLink RX5 120 yX5_comesIn, Cond.instanceMethod yX5_comesIn, Cond.selects RX5 yX5_comesIn yX5_comesIn, Cond.code yX5_comesIn cX5_comesIn 5 (some .boolean), Cond.methodLink RX5 113 yX5_entryOf, Cond.static yX5_entryOf]
def wsX5_house_r4 : List Cond := [Cond.code yX5_entryOf cX5_entryOf 3 (some .int), Cond.methodLink RX5 117 yX5_whoOn, Cond.instanceMethod yX5_whoOn, Cond.selects RX5 yX5_whoOn yX5_whoOn, Cond.code yX5_whoOn cX5_whoOn 3 (some .int), Cond.methodLink RX5 123 yX5_comesYear, Cond.instanceMethod yX5_comesYear, Cond.selects RX5 yX5_comesYear yX5_comesYear, Cond.code yX5_comesYear cX5_comesYear 5 (some .boolean), Cond.methodLink RX5 104 yX5_isAlive, Cond.instanceMethod yX5_isAlive, Cond.selects RX5 yX5_isAlive yX5_isAlive, Cond.code yX5_isAlive cX5_isAlive 2 (some .boolean), Cond.methodLink RX5 110 yX5_goesYear, Cond.instanceMethod yX5_goesYear, Cond.selects RX5 yX5_goesYear yX5_goesYear, Cond.code yX5_goesYear cX5_goesYear 4 (some .int), Cond.fieldLink RX5 49 "UpWhenDiesModel" "moving" "[I", Cond.methodLink RX5 156 yX5_movesOf, Cond.instanceMethod yX5_movesOf, Cond.selects RX5 yX5_movesOf yX5_movesOf, Cond.code yX5_movesOf cX5_movesOf 5 (some .int), Cond.methodLink RX5 153 yX5_least, Cond.static yX5_least]
def wsX5_house_r5 : List Cond := [Cond.code yX5_least cX5_least 2 (some .int)]
def wsX5_house : List Cond := .code yX5_house cX5_house 3 (some .int) :: ((wsX5_house_r1 ++ (wsX5_house_r2 ++ (wsX5_house_r3 ++ (wsX5_house_r4 ++ wsX5_house_r5)))) ++ wsX50)
def wsX5_image : List Cond := .code yX5_image cX5_image 1 (some .int) :: ([.fieldLink RX5 150 "UpWhenDiesModel" "hasImage" "Z", .fieldLink RX5 107 "UpWhenDiesModel" "year" "I", .methodLink RX5 129 yX5_passesAll, .instanceMethod yX5_passesAll, .selects RX5 yX5_passesAll yX5_passesAll, .initialized RX5, .code yX5_passesAll cX5_passesAll 3 none, .fieldLink RX5 140 "UpWhenDiesModel" "cursor" "I", .fieldLink RX5 136 "UpWhenDiesModel" "isKeeping" "Z", .fieldLink RX5 13 "UpWhenDiesModel" "kind" "[I", .fieldLink RX5 16 "UpWhenDiesModel" "age" "[I", .fieldLink RX5 19 "UpWhenDiesModel" "floorOf" "[I", .fieldLink RX5 22 "UpWhenDiesModel" "load" "[I", .fieldLink RX5 25 "UpWhenDiesModel" "wishOf" "[I", .fieldLink RX5 57 "UpWhenDiesModel" "lodgers" "I", .methodLink RX5 143 yX5_passes, .instanceMethod yX5_passes, .selects RX5 yX5_passes yX5_passes, .code yX5_passes cX5_passes 3 none, .fieldLink RX5 46 "UpWhenDiesModel" "kept" "[I", .methodLink RX5 147 yX5_passOne, .instanceMethod yX5_passOne, .selects RX5 yX5_passOne yX5_passOne, .code yX5_passOne cX5_passOne 3 (some .int)] ++ wsX50)
def wsX5_back_r1 : List Cond := [Cond.fieldLink RX5 150 "UpWhenDiesModel" "hasImage" "Z", Cond.fieldLink RX5 107 "UpWhenDiesModel" "year" "I", Cond.methodLink RX5 68 yX5_no, Cond.instanceMethod yX5_no, Cond.selects RX5 yX5_no yX5_no, Cond.initialized RX5, Cond.code yX5_no cX5_no 2 (some .int), Cond.fieldLink RX5 7 "UpWhenDiesModel" "refused" "[I", Cond.methodLink RX5 129 yX5_passesAll, Cond.instanceMethod yX5_passesAll, Cond.selects RX5 yX5_passesAll yX5_passesAll, Cond.code yX5_passesAll cX5_passesAll 3 none, Cond.fieldLink RX5 140 "UpWhenDiesModel" "cursor" "I", Cond.fieldLink RX5 136 "UpWhenDiesModel" "isKeeping" "Z", Cond.fieldLink RX5 13 "UpWhenDiesModel" "kind" "[I", Cond.fieldLink RX5 16 "UpWhenDiesModel" "age" "[I", Cond.fieldLink RX5 19 "UpWhenDiesModel" "floorOf" "[I", Cond.fieldLink RX5 22 "UpWhenDiesModel" "load" "[I", Cond.fieldLink RX5 25 "UpWhenDiesModel" "wishOf" "[I", Cond.fieldLink RX5 57 "UpWhenDiesModel" "lodgers" "I", Cond.methodLink RX5 143 yX5_passes, Cond.instanceMethod yX5_passes, Cond.selects RX5 yX5_passes yX5_passes, Cond.code yX5_passes cX5_passes 3 none]
def wsX5_back_r2 : List Cond := [Cond.fieldLink RX5 46 "UpWhenDiesModel" "kept" "[I", Cond.methodLink RX5 147 yX5_passOne, Cond.instanceMethod yX5_passOne, Cond.selects RX5 yX5_passOne yX5_passOne, Cond.code yX5_passOne cX5_passOne 3 (some .int)]
def wsX5_back : List Cond := .code yX5_back cX5_back 1 (some .int) :: ((wsX5_back_r1 ++ wsX5_back_r2) ++ wsX50)
def wsX5_chanceOf : List Cond := .code yX5_chanceOf cX5_chanceOf 3 (some .int) :: ([.fieldLink RX5 16 "UpWhenDiesModel" "age" "[I", .fieldLink RX5 13 "UpWhenDiesModel" "kind" "[I", .methodLink RX5 153 yX5_least, .static yX5_least, .initialized RX5, .code yX5_least cX5_least 2 (some .int)] ++ wsX50)
def wsX5_climbs : List Cond := .code yX5_climbs cX5_climbs 3 (some .int) :: ([.methodLink RX5 153 yX5_least, .static yX5_least, .initialized RX5, .code yX5_least cX5_least 2 (some .int)])
def wsX5_areAlive : List Cond := .code yX5_areAlive cX5_areAlive 2 (some .boolean) :: ([.methodLink RX5 159 yX5_aliveBits, .instanceMethod yX5_aliveBits, .selects RX5 yX5_aliveBits yX5_aliveBits, .initialized RX5, .code yX5_aliveBits cX5_aliveBits 3 (some .int), .fieldLink RX5 57 "UpWhenDiesModel" "lodgers" "I", .fieldLink RX5 19 "UpWhenDiesModel" "floorOf" "[I"] ++ wsX50)
def wsX5_enter_r1 : List Cond := [Cond.fieldLink RX5 57 "UpWhenDiesModel" "lodgers" "I", Cond.methodLink RX5 79 yX5_isIn, Cond.static yX5_isIn, Cond.initialized RX5, Cond.code yX5_isIn cX5_isIn 3 (some .boolean), Cond.methodLink RX5 113 yX5_entryOf, Cond.static yX5_entryOf, Cond.code yX5_entryOf cX5_entryOf 3 (some .int), Cond.methodLink RX5 117 yX5_whoOn, Cond.instanceMethod yX5_whoOn, Cond.selects RX5 yX5_whoOn yX5_whoOn, Cond.code yX5_whoOn cX5_whoOn 3 (some .int), Cond.fieldLink RX5 19 "UpWhenDiesModel" "floorOf" "[I", Cond.methodLink RX5 68 yX5_no, Cond.instanceMethod yX5_no, Cond.selects RX5 yX5_no yX5_no, Cond.code yX5_no cX5_no 2 (some .int), Cond.fieldLink RX5 7 "UpWhenDiesModel" "refused" "[I", Cond.methodLink RX5 120 yX5_comesIn, Cond.instanceMethod yX5_comesIn, Cond.selects RX5 yX5_comesIn yX5_comesIn, Cond.code yX5_comesIn cX5_comesIn 5 (some .boolean), Cond.fieldLink RX5 13 "UpWhenDiesModel" "kind" "[I", Cond.fieldLink RX5 16 "UpWhenDiesModel" "age" "[I"]
def wsX5_enter_r2 : List Cond := [Cond.fieldLink RX5 22 "UpWhenDiesModel" "load" "[I", Cond.fieldLink RX5 25 "UpWhenDiesModel" "wishOf" "[I"]
def wsX5_enter : List Cond := .code yX5_enter cX5_enter 5 (some .int) :: ((wsX5_enter_r1 ++ wsX5_enter_r2) ++ wsX50)
def wsX5_lodger_r1 : List Cond := [Cond.fieldLink RX5 13 "UpWhenDiesModel" "kind" "[I", Cond.fieldLink RX5 16 "UpWhenDiesModel" "age" "[I", Cond.fieldLink RX5 19 "UpWhenDiesModel" "floorOf" "[I", Cond.fieldLink RX5 22 "UpWhenDiesModel" "load" "[I", Cond.fieldLink RX5 25 "UpWhenDiesModel" "wishOf" "[I", Cond.methodLink RX5 104 yX5_isAlive, Cond.instanceMethod yX5_isAlive, Cond.selects RX5 yX5_isAlive yX5_isAlive, Cond.initialized RX5, Cond.code yX5_isAlive cX5_isAlive 2 (some .boolean), Cond.fieldLink RX5 57 "UpWhenDiesModel" "lodgers" "I", Cond.methodLink RX5 68 yX5_no, Cond.instanceMethod yX5_no, Cond.selects RX5 yX5_no yX5_no, Cond.code yX5_no cX5_no 2 (some .int), Cond.fieldLink RX5 7 "UpWhenDiesModel" "refused" "[I", Cond.methodLink RX5 162 yX5_chanceOf, Cond.instanceMethod yX5_chanceOf, Cond.selects RX5 yX5_chanceOf yX5_chanceOf, Cond.code yX5_chanceOf cX5_chanceOf 3 (some .int), Cond.methodLink RX5 153 yX5_least, Cond.static yX5_least, Cond.code yX5_least cX5_least 2 (some .int), Cond.methodLink RX5 165 yX5_climbs]
def wsX5_lodger_r2 : List Cond := [Cond.static yX5_climbs, Cond.code yX5_climbs cX5_climbs 3 (some .int)]
def wsX5_lodger : List Cond := .code yX5_lodger cX5_lodger 3 (some .int) :: ((wsX5_lodger_r1 ++ wsX5_lodger_r2) ++ wsX50)
def wsX5_wish : List Cond := .code yX5_wish cX5_wish 4 (some .int) :: ([.fieldLink RX5 25 "UpWhenDiesModel" "wishOf" "[I", .methodLink RX5 104 yX5_isAlive, .instanceMethod yX5_isAlive, .selects RX5 yX5_isAlive yX5_isAlive, .initialized RX5, .code yX5_isAlive cX5_isAlive 2 (some .boolean), .fieldLink RX5 57 "UpWhenDiesModel" "lodgers" "I", .fieldLink RX5 19 "UpWhenDiesModel" "floorOf" "[I", .methodLink RX5 168 yX5_isFloor, .static yX5_isFloor, .code yX5_isFloor cX5_isFloor 1 (some .boolean), .methodLink RX5 68 yX5_no, .instanceMethod yX5_no, .selects RX5 yX5_no yX5_no, .code yX5_no cX5_no 2 (some .int), .fieldLink RX5 7 "UpWhenDiesModel" "refused" "[I"] ++ wsX50)
def wsX5_year_r1 : List Cond := [Cond.fieldLink RX5 107 "UpWhenDiesModel" "year" "I", Cond.methodLink RX5 171 yX5_areAlive, Cond.instanceMethod yX5_areAlive, Cond.selects RX5 yX5_areAlive yX5_areAlive, Cond.initialized RX5, Cond.code yX5_areAlive cX5_areAlive 2 (some .boolean), Cond.methodLink RX5 159 yX5_aliveBits, Cond.instanceMethod yX5_aliveBits, Cond.selects RX5 yX5_aliveBits yX5_aliveBits, Cond.code yX5_aliveBits cX5_aliveBits 3 (some .int), Cond.fieldLink RX5 57 "UpWhenDiesModel" "lodgers" "I", Cond.fieldLink RX5 19 "UpWhenDiesModel" "floorOf" "[I", Cond.methodLink RX5 68 yX5_no, Cond.instanceMethod yX5_no, Cond.selects RX5 yX5_no yX5_no, Cond.code yX5_no cX5_no 2 (some .int), Cond.fieldLink RX5 7 "UpWhenDiesModel" "refused" "[I", Cond.methodLink RX5 110 yX5_goesYear, Cond.instanceMethod yX5_goesYear, Cond.selects RX5 yX5_goesYear yX5_goesYear, Cond.code yX5_goesYear cX5_goesYear 4 (some .int), Cond.fieldLink RX5 49 "UpWhenDiesModel" "moving" "[I", Cond.fieldLink RX5 16 "UpWhenDiesModel" "age" "[I", Cond.methodLink RX5 156 yX5_movesOf]
def wsX5_year_r2 : List Cond := [Cond.instanceMethod yX5_movesOf, Cond.selects RX5 yX5_movesOf yX5_movesOf, Cond.code yX5_movesOf cX5_movesOf 5 (some .int), Cond.fieldLink RX5 13 "UpWhenDiesModel" "kind" "[I", Cond.methodLink RX5 153 yX5_least, Cond.static yX5_least, Cond.code yX5_least cX5_least 2 (some .int)]
def wsX5_year : List Cond := .code yX5_year cX5_year 2 (some .int) :: ((wsX5_year_r1 ++ wsX5_year_r2) ++ wsX50)
def wsX5_on : List Cond := .code yX5_on cX5_on 2 (some .int) :: ([.methodLink RX5 168 yX5_isFloor, .static yX5_isFloor, .initialized RX5, .code yX5_isFloor cX5_isFloor 1 (some .boolean), .methodLink RX5 117 yX5_whoOn, .instanceMethod yX5_whoOn, .selects RX5 yX5_whoOn yX5_whoOn, .code yX5_whoOn cX5_whoOn 3 (some .int), .fieldLink RX5 57 "UpWhenDiesModel" "lodgers" "I", .fieldLink RX5 19 "UpWhenDiesModel" "floorOf" "[I", .methodLink RX5 68 yX5_no, .instanceMethod yX5_no, .selects RX5 yX5_no yX5_no, .code yX5_no cX5_no 2 (some .int), .fieldLink RX5 7 "UpWhenDiesModel" "refused" "[I"] ++ wsX50)
def wsX5_partsOf : List Cond := .code yX5_partsOf cX5_partsOf 5 (some .long) :: ([.fieldLink RX5 57 "UpWhenDiesModel" "lodgers" "I", .fieldLink RX5 19 "UpWhenDiesModel" "floorOf" "[I", .constantLong RX5 174 (10), .methodLink RX5 162 yX5_chanceOf, .instanceMethod yX5_chanceOf, .selects RX5 yX5_chanceOf yX5_chanceOf, .initialized RX5, .code yX5_chanceOf cX5_chanceOf 3 (some .int), .fieldLink RX5 16 "UpWhenDiesModel" "age" "[I", .fieldLink RX5 13 "UpWhenDiesModel" "kind" "[I", .methodLink RX5 153 yX5_least, .static yX5_least, .code yX5_least cX5_least 2 (some .int)] ++ wsX50)
def wsX5_divisor : List Cond := .code yX5_divisor cX5_divisor 10 (some .long) :: ([])
def wsX5_partsTo_r1 : List Cond := [Cond.fieldLink RX5 57 "UpWhenDiesModel" "lodgers" "I", Cond.fieldLink RX5 19 "UpWhenDiesModel" "floorOf" "[I", Cond.methodLink RX5 171 yX5_areAlive, Cond.instanceMethod yX5_areAlive, Cond.selects RX5 yX5_areAlive yX5_areAlive, Cond.initialized RX5, Cond.code yX5_areAlive cX5_areAlive 2 (some .boolean), Cond.methodLink RX5 159 yX5_aliveBits, Cond.instanceMethod yX5_aliveBits, Cond.selects RX5 yX5_aliveBits yX5_aliveBits, Cond.code yX5_aliveBits cX5_aliveBits 3 (some .int), Cond.methodLink RX5 176 yX5_partsOf, Cond.instanceMethod yX5_partsOf, Cond.selects RX5 yX5_partsOf yX5_partsOf, Cond.code yX5_partsOf cX5_partsOf 5 (some .long), Cond.constantLong RX5 174 (10), Cond.methodLink RX5 162 yX5_chanceOf, Cond.instanceMethod yX5_chanceOf, Cond.selects RX5 yX5_chanceOf yX5_chanceOf, Cond.code yX5_chanceOf cX5_chanceOf 3 (some .int), Cond.fieldLink RX5 16 "UpWhenDiesModel" "age" "[I", Cond.fieldLink RX5 13 "UpWhenDiesModel" "kind" "[I", Cond.methodLink RX5 153 yX5_least, Cond.static yX5_least]
def wsX5_partsTo_r2 : List Cond := [Cond.code yX5_least cX5_least 2 (some .int), Cond.methodLink RX5 129 yX5_passesAll, Cond.instanceMethod yX5_passesAll, Cond.selects RX5 yX5_passesAll yX5_passesAll, Cond.code yX5_passesAll cX5_passesAll 3 none, Cond.fieldLink RX5 140 "UpWhenDiesModel" "cursor" "I", Cond.fieldLink RX5 136 "UpWhenDiesModel" "isKeeping" "Z", Cond.fieldLink RX5 22 "UpWhenDiesModel" "load" "[I", Cond.fieldLink RX5 25 "UpWhenDiesModel" "wishOf" "[I", Cond.fieldLink RX5 107 "UpWhenDiesModel" "year" "I", Cond.methodLink RX5 143 yX5_passes, Cond.instanceMethod yX5_passes, Cond.selects RX5 yX5_passes yX5_passes, Cond.code yX5_passes cX5_passes 3 none, Cond.fieldLink RX5 46 "UpWhenDiesModel" "kept" "[I", Cond.methodLink RX5 147 yX5_passOne, Cond.instanceMethod yX5_passOne, Cond.selects RX5 yX5_passOne yX5_passOne, Cond.code yX5_passOne cX5_passOne 3 (some .int), Cond.methodLink RX5 110 yX5_goesYear, Cond.instanceMethod yX5_goesYear, Cond.selects RX5 yX5_goesYear yX5_goesYear, Cond.code yX5_goesYear cX5_goesYear 4 (some .int), Cond.fieldLink RX5 49 "UpWhenDiesModel" "moving" "[I"]
def wsX5_partsTo_r3 : List Cond := [Cond.methodLink RX5 156 yX5_movesOf, Cond.instanceMethod yX5_movesOf, Cond.selects RX5 yX5_movesOf yX5_movesOf, Cond.code yX5_movesOf cX5_movesOf 5 (some .int)]
def wsX5_partsTo : List Cond := .code yX5_partsTo cX5_partsTo 9 (some .long) :: ((wsX5_partsTo_r1 ++ (wsX5_partsTo_r2 ++ wsX5_partsTo_r3)) ++ wsX50)
def wsX5_partsInTwo_r1 : List Cond := [Cond.fieldLink RX5 57 "UpWhenDiesModel" "lodgers" "I", Cond.methodLink RX5 171 yX5_areAlive, Cond.instanceMethod yX5_areAlive, Cond.selects RX5 yX5_areAlive yX5_areAlive, Cond.initialized RX5, Cond.code yX5_areAlive cX5_areAlive 2 (some .boolean), Cond.methodLink RX5 159 yX5_aliveBits, Cond.instanceMethod yX5_aliveBits, Cond.selects RX5 yX5_aliveBits yX5_aliveBits, Cond.code yX5_aliveBits cX5_aliveBits 3 (some .int), Cond.fieldLink RX5 19 "UpWhenDiesModel" "floorOf" "[I", Cond.methodLink RX5 176 yX5_partsOf, Cond.instanceMethod yX5_partsOf, Cond.selects RX5 yX5_partsOf yX5_partsOf, Cond.code yX5_partsOf cX5_partsOf 5 (some .long), Cond.constantLong RX5 174 (10), Cond.methodLink RX5 162 yX5_chanceOf, Cond.instanceMethod yX5_chanceOf, Cond.selects RX5 yX5_chanceOf yX5_chanceOf, Cond.code yX5_chanceOf cX5_chanceOf 3 (some .int), Cond.fieldLink RX5 16 "UpWhenDiesModel" "age" "[I", Cond.fieldLink RX5 13 "UpWhenDiesModel" "kind" "[I", Cond.methodLink RX5 153 yX5_least, Cond.static yX5_least]
def wsX5_partsInTwo_r2 : List Cond := [Cond.code yX5_least cX5_least 2 (some .int), Cond.methodLink RX5 129 yX5_passesAll, Cond.instanceMethod yX5_passesAll, Cond.selects RX5 yX5_passesAll yX5_passesAll, Cond.code yX5_passesAll cX5_passesAll 3 none, Cond.fieldLink RX5 140 "UpWhenDiesModel" "cursor" "I", Cond.fieldLink RX5 136 "UpWhenDiesModel" "isKeeping" "Z", Cond.fieldLink RX5 22 "UpWhenDiesModel" "load" "[I", Cond.fieldLink RX5 25 "UpWhenDiesModel" "wishOf" "[I", Cond.fieldLink RX5 107 "UpWhenDiesModel" "year" "I", Cond.methodLink RX5 143 yX5_passes, Cond.instanceMethod yX5_passes, Cond.selects RX5 yX5_passes yX5_passes, Cond.code yX5_passes cX5_passes 3 none, Cond.fieldLink RX5 46 "UpWhenDiesModel" "kept" "[I", Cond.methodLink RX5 147 yX5_passOne, Cond.instanceMethod yX5_passOne, Cond.selects RX5 yX5_passOne yX5_passOne, Cond.code yX5_passOne cX5_passOne 3 (some .int), Cond.methodLink RX5 110 yX5_goesYear, Cond.instanceMethod yX5_goesYear, Cond.selects RX5 yX5_goesYear yX5_goesYear, Cond.code yX5_goesYear cX5_goesYear 4 (some .int), Cond.fieldLink RX5 49 "UpWhenDiesModel" "moving" "[I"]
def wsX5_partsInTwo_r3 : List Cond := [Cond.methodLink RX5 156 yX5_movesOf, Cond.instanceMethod yX5_movesOf, Cond.selects RX5 yX5_movesOf yX5_movesOf, Cond.code yX5_movesOf cX5_movesOf 5 (some .int), Cond.methodLink RX5 180 yX5_partsTo, Cond.instanceMethod yX5_partsTo, Cond.selects RX5 yX5_partsTo yX5_partsTo, Cond.code yX5_partsTo cX5_partsTo 9 (some .long)]
def wsX5_partsInTwo : List Cond := .code yX5_partsInTwo cX5_partsInTwo 8 (some .long) :: ((wsX5_partsInTwo_r1 ++ (wsX5_partsInTwo_r2 ++ wsX5_partsInTwo_r3)) ++ wsX50)
def wsX5_likely_r1 : List Cond := [Cond.fieldLink RX5 57 "UpWhenDiesModel" "lodgers" "I", Cond.constantLong RX5 174 (10), Cond.methodLink RX5 104 yX5_isAlive, Cond.instanceMethod yX5_isAlive, Cond.selects RX5 yX5_isAlive yX5_isAlive, Cond.initialized RX5, Cond.code yX5_isAlive cX5_isAlive 2 (some .boolean), Cond.fieldLink RX5 19 "UpWhenDiesModel" "floorOf" "[I", Cond.methodLink RX5 168 yX5_isFloor, Cond.static yX5_isFloor, Cond.code yX5_isFloor cX5_isFloor 1 (some .boolean), Cond.methodLink RX5 184 yX5_lowest, Cond.instanceMethod yX5_lowest, Cond.selects RX5 yX5_lowest yX5_lowest, Cond.code yX5_lowest cX5_lowest 2 (some .long), Cond.fieldLink RX5 7 "UpWhenDiesModel" "refused" "[I", Cond.constantLong RX5 55 (4000000000000000000), Cond.methodLink RX5 61 yX5_bound, Cond.static yX5_bound, Cond.code yX5_bound cX5_bound 3 (some .int), Cond.methodLink RX5 79 yX5_isIn, Cond.static yX5_isIn, Cond.code yX5_isIn cX5_isIn 3 (some .boolean), Cond.methodLink RX5 180 yX5_partsTo]
def wsX5_likely_r2 : List Cond := [Cond.instanceMethod yX5_partsTo, Cond.selects RX5 yX5_partsTo yX5_partsTo, Cond.code yX5_partsTo cX5_partsTo 9 (some .long), Cond.methodLink RX5 171 yX5_areAlive, Cond.instanceMethod yX5_areAlive, Cond.selects RX5 yX5_areAlive yX5_areAlive, Cond.code yX5_areAlive cX5_areAlive 2 (some .boolean), Cond.methodLink RX5 159 yX5_aliveBits, Cond.instanceMethod yX5_aliveBits, Cond.selects RX5 yX5_aliveBits yX5_aliveBits, Cond.code yX5_aliveBits cX5_aliveBits 3 (some .int), Cond.methodLink RX5 176 yX5_partsOf, Cond.instanceMethod yX5_partsOf, Cond.selects RX5 yX5_partsOf yX5_partsOf, Cond.code yX5_partsOf cX5_partsOf 5 (some .long), Cond.methodLink RX5 162 yX5_chanceOf, Cond.instanceMethod yX5_chanceOf, Cond.selects RX5 yX5_chanceOf yX5_chanceOf, Cond.code yX5_chanceOf cX5_chanceOf 3 (some .int), Cond.fieldLink RX5 16 "UpWhenDiesModel" "age" "[I", Cond.fieldLink RX5 13 "UpWhenDiesModel" "kind" "[I", Cond.methodLink RX5 153 yX5_least, Cond.static yX5_least, Cond.code yX5_least cX5_least 2 (some .int)]
def wsX5_likely_r3 : List Cond := [Cond.methodLink RX5 129 yX5_passesAll, Cond.instanceMethod yX5_passesAll, Cond.selects RX5 yX5_passesAll yX5_passesAll, Cond.code yX5_passesAll cX5_passesAll 3 none, Cond.fieldLink RX5 140 "UpWhenDiesModel" "cursor" "I", Cond.fieldLink RX5 136 "UpWhenDiesModel" "isKeeping" "Z", Cond.fieldLink RX5 22 "UpWhenDiesModel" "load" "[I", Cond.fieldLink RX5 25 "UpWhenDiesModel" "wishOf" "[I", Cond.fieldLink RX5 107 "UpWhenDiesModel" "year" "I", Cond.methodLink RX5 143 yX5_passes, Cond.instanceMethod yX5_passes, Cond.selects RX5 yX5_passes yX5_passes, Cond.code yX5_passes cX5_passes 3 none, Cond.fieldLink RX5 46 "UpWhenDiesModel" "kept" "[I", Cond.methodLink RX5 147 yX5_passOne, Cond.instanceMethod yX5_passOne, Cond.selects RX5 yX5_passOne yX5_passOne, Cond.code yX5_passOne cX5_passOne 3 (some .int), Cond.methodLink RX5 110 yX5_goesYear, Cond.instanceMethod yX5_goesYear, Cond.selects RX5 yX5_goesYear yX5_goesYear, Cond.code yX5_goesYear cX5_goesYear 4 (some .int), Cond.fieldLink RX5 49 "UpWhenDiesModel" "moving" "[I", Cond.methodLink RX5 156 yX5_movesOf]
def wsX5_likely_r4 : List Cond := [Cond.instanceMethod yX5_movesOf, Cond.selects RX5 yX5_movesOf yX5_movesOf, Cond.code yX5_movesOf cX5_movesOf 5 (some .int), Cond.methodLink RX5 187 yX5_partsInTwo, Cond.instanceMethod yX5_partsInTwo, Cond.selects RX5 yX5_partsInTwo yX5_partsInTwo, Cond.code yX5_partsInTwo cX5_partsInTwo 8 (some .long), Cond.methodLink RX5 191 yX5_divisor, Cond.static yX5_divisor, Cond.code yX5_divisor cX5_divisor 10 (some .long)]
def wsX5_likely : List Cond := .code yX5_likely cX5_likely 10 (some .long) :: ((wsX5_likely_r1 ++ (wsX5_likely_r2 ++ (wsX5_likely_r3 ++ wsX5_likely_r4))) ++ wsX50)
def wsX5_mean : List Cond := .code yX5_mean cX5_mean 3 (some .int) :: ([.fieldLink RX5 57 "UpWhenDiesModel" "lodgers" "I", .fieldLink RX5 19 "UpWhenDiesModel" "floorOf" "[I", .methodLink RX5 162 yX5_chanceOf, .instanceMethod yX5_chanceOf, .selects RX5 yX5_chanceOf yX5_chanceOf, .initialized RX5, .code yX5_chanceOf cX5_chanceOf 3 (some .int), .fieldLink RX5 16 "UpWhenDiesModel" "age" "[I", .fieldLink RX5 13 "UpWhenDiesModel" "kind" "[I", .methodLink RX5 153 yX5_least, .static yX5_least, .code yX5_least cX5_least 2 (some .int)] ++ wsX50)
def wsX5_deaths_r1 : List Cond := [Cond.fieldLink RX5 19 "UpWhenDiesModel" "floorOf" "[I", Cond.fieldLink RX5 13 "UpWhenDiesModel" "kind" "[I", Cond.fieldLink RX5 57 "UpWhenDiesModel" "lodgers" "I", Cond.methodLink RX5 104 yX5_isAlive, Cond.instanceMethod yX5_isAlive, Cond.selects RX5 yX5_isAlive yX5_isAlive, Cond.initialized RX5, Cond.code yX5_isAlive cX5_isAlive 2 (some .boolean), Cond.methodLink RX5 168 yX5_isFloor, Cond.static yX5_isFloor, Cond.code yX5_isFloor cX5_isFloor 1 (some .boolean), Cond.methodLink RX5 68 yX5_no, Cond.instanceMethod yX5_no, Cond.selects RX5 yX5_no yX5_no, Cond.code yX5_no cX5_no 2 (some .int), Cond.fieldLink RX5 7 "UpWhenDiesModel" "refused" "[I", Cond.methodLink RX5 79 yX5_isIn, Cond.static yX5_isIn, Cond.code yX5_isIn cX5_isIn 3 (some .boolean), Cond.methodLink RX5 162 yX5_chanceOf, Cond.instanceMethod yX5_chanceOf, Cond.selects RX5 yX5_chanceOf yX5_chanceOf, Cond.code yX5_chanceOf cX5_chanceOf 3 (some .int), Cond.fieldLink RX5 16 "UpWhenDiesModel" "age" "[I"]
def wsX5_deaths_r2 : List Cond := [Cond.methodLink RX5 153 yX5_least, Cond.static yX5_least, Cond.code yX5_least cX5_least 2 (some .int)]
def wsX5_deaths : List Cond := .code yX5_deaths cX5_deaths 9 (some .int) :: ((wsX5_deaths_r1 ++ wsX5_deaths_r2) ++ wsX50)
def wsX5_stuck : List Cond := .code yX5_stuck cX5_stuck 3 (some .int) :: ([.fieldLink RX5 57 "UpWhenDiesModel" "lodgers" "I", .fieldLink RX5 19 "UpWhenDiesModel" "floorOf" "[I", .fieldLink RX5 13 "UpWhenDiesModel" "kind" "[I", .fieldLink RX5 16 "UpWhenDiesModel" "age" "[I", .methodLink RX5 165 yX5_climbs, .static yX5_climbs, .initialized RX5, .code yX5_climbs cX5_climbs 3 (some .int), .methodLink RX5 153 yX5_least, .static yX5_least, .code yX5_least cX5_least 2 (some .int)] ++ wsX50)
def wsX5_safe : List Cond := .code yX5_safe cX5_safe 4 (some .int) :: ([.fieldLink RX5 13 "UpWhenDiesModel" "kind" "[I", .fieldLink RX5 16 "UpWhenDiesModel" "age" "[I", .fieldLink RX5 19 "UpWhenDiesModel" "floorOf" "[I", .methodLink RX5 104 yX5_isAlive, .instanceMethod yX5_isAlive, .selects RX5 yX5_isAlive yX5_isAlive, .initialized RX5, .code yX5_isAlive cX5_isAlive 2 (some .boolean), .fieldLink RX5 57 "UpWhenDiesModel" "lodgers" "I", .methodLink RX5 68 yX5_no, .instanceMethod yX5_no, .selects RX5 yX5_no yX5_no, .code yX5_no cX5_no 2 (some .int), .fieldLink RX5 7 "UpWhenDiesModel" "refused" "[I", .methodLink RX5 153 yX5_least, .static yX5_least, .code yX5_least cX5_least 2 (some .int), .methodLink RX5 165 yX5_climbs, .static yX5_climbs, .code yX5_climbs cX5_climbs 3 (some .int)] ++ wsX50)
def wsX5_carriedBy : List Cond := .code yX5_carriedBy cX5_carriedBy 4 (some .int) :: ([.fieldLink RX5 57 "UpWhenDiesModel" "lodgers" "I", .fieldLink RX5 22 "UpWhenDiesModel" "load" "[I", .methodLink RX5 156 yX5_movesOf, .instanceMethod yX5_movesOf, .selects RX5 yX5_movesOf yX5_movesOf, .initialized RX5, .code yX5_movesOf cX5_movesOf 5 (some .int), .fieldLink RX5 19 "UpWhenDiesModel" "floorOf" "[I", .fieldLink RX5 13 "UpWhenDiesModel" "kind" "[I"] ++ wsX50)
def wsX5_carried_r1 : List Cond := [Cond.methodLink RX5 171 yX5_areAlive, Cond.instanceMethod yX5_areAlive, Cond.selects RX5 yX5_areAlive yX5_areAlive, Cond.initialized RX5, Cond.code yX5_areAlive cX5_areAlive 2 (some .boolean), Cond.methodLink RX5 159 yX5_aliveBits, Cond.instanceMethod yX5_aliveBits, Cond.selects RX5 yX5_aliveBits yX5_aliveBits, Cond.code yX5_aliveBits cX5_aliveBits 3 (some .int), Cond.fieldLink RX5 57 "UpWhenDiesModel" "lodgers" "I", Cond.fieldLink RX5 19 "UpWhenDiesModel" "floorOf" "[I", Cond.methodLink RX5 195 yX5_carriedBy, Cond.instanceMethod yX5_carriedBy, Cond.selects RX5 yX5_carriedBy yX5_carriedBy, Cond.code yX5_carriedBy cX5_carriedBy 4 (some .int), Cond.fieldLink RX5 22 "UpWhenDiesModel" "load" "[I", Cond.methodLink RX5 156 yX5_movesOf, Cond.instanceMethod yX5_movesOf, Cond.selects RX5 yX5_movesOf yX5_movesOf, Cond.code yX5_movesOf cX5_movesOf 5 (some .int), Cond.fieldLink RX5 13 "UpWhenDiesModel" "kind" "[I", Cond.methodLink RX5 68 yX5_no, Cond.instanceMethod yX5_no, Cond.selects RX5 yX5_no yX5_no]
def wsX5_carried_r2 : List Cond := [Cond.code yX5_no cX5_no 2 (some .int), Cond.fieldLink RX5 7 "UpWhenDiesModel" "refused" "[I"]
def wsX5_carried : List Cond := .code yX5_carried cX5_carried 2 (some .int) :: ((wsX5_carried_r1 ++ wsX5_carried_r2) ++ wsX50)
def wsX5_leastCarried : List Cond := .code yX5_leastCarried cX5_leastCarried 3 (some .int) :: ([.fieldLink RX5 57 "UpWhenDiesModel" "lodgers" "I", .fieldLink RX5 19 "UpWhenDiesModel" "floorOf" "[I", .methodLink RX5 195 yX5_carriedBy, .instanceMethod yX5_carriedBy, .selects RX5 yX5_carriedBy yX5_carriedBy, .initialized RX5, .code yX5_carriedBy cX5_carriedBy 4 (some .int), .fieldLink RX5 22 "UpWhenDiesModel" "load" "[I", .methodLink RX5 156 yX5_movesOf, .instanceMethod yX5_movesOf, .selects RX5 yX5_movesOf yX5_movesOf, .code yX5_movesOf cX5_movesOf 5 (some .int), .fieldLink RX5 13 "UpWhenDiesModel" "kind" "[I"] ++ wsX50)
def wsX5_ringBits : List Cond := .code yX5_ringBits cX5_ringBits 5 (some .int) :: ([.fieldLink RX5 57 "UpWhenDiesModel" "lodgers" "I", .fieldLink RX5 19 "UpWhenDiesModel" "floorOf" "[I", .fieldLink RX5 25 "UpWhenDiesModel" "wishOf" "[I", .methodLink RX5 117 yX5_whoOn, .instanceMethod yX5_whoOn, .selects RX5 yX5_whoOn yX5_whoOn, .initialized RX5, .code yX5_whoOn cX5_whoOn 3 (some .int)] ++ wsX50)
def wsX5_rings : List Cond := .code yX5_rings cX5_rings 1 (some .int) :: ([.methodLink RX5 198 yX5_ringBits, .instanceMethod yX5_ringBits, .selects RX5 yX5_ringBits yX5_ringBits, .initialized RX5, .code yX5_ringBits cX5_ringBits 5 (some .int), .fieldLink RX5 57 "UpWhenDiesModel" "lodgers" "I", .fieldLink RX5 19 "UpWhenDiesModel" "floorOf" "[I", .fieldLink RX5 25 "UpWhenDiesModel" "wishOf" "[I", .methodLink RX5 117 yX5_whoOn, .instanceMethod yX5_whoOn, .selects RX5 yX5_whoOn yX5_whoOn, .code yX5_whoOn cX5_whoOn 3 (some .int)] ++ wsX50)
def wsX5_changing : List Cond := .code yX5_changing cX5_changing 4 (some .int) :: ([.fieldLink RX5 57 "UpWhenDiesModel" "lodgers" "I", .fieldLink RX5 19 "UpWhenDiesModel" "floorOf" "[I", .fieldLink RX5 25 "UpWhenDiesModel" "wishOf" "[I", .methodLink RX5 198 yX5_ringBits, .instanceMethod yX5_ringBits, .selects RX5 yX5_ringBits yX5_ringBits, .initialized RX5, .code yX5_ringBits cX5_ringBits 5 (some .int), .methodLink RX5 117 yX5_whoOn, .instanceMethod yX5_whoOn, .selects RX5 yX5_whoOn yX5_whoOn, .code yX5_whoOn cX5_whoOn 3 (some .int)] ++ wsX50)
def wsX5_free : List Cond := .code yX5_free cX5_free 3 (some .int) :: ([.methodLink RX5 117 yX5_whoOn, .instanceMethod yX5_whoOn, .selects RX5 yX5_whoOn yX5_whoOn, .initialized RX5, .code yX5_whoOn cX5_whoOn 3 (some .int), .fieldLink RX5 57 "UpWhenDiesModel" "lodgers" "I", .fieldLink RX5 19 "UpWhenDiesModel" "floorOf" "[I"] ++ wsX50)
def wsX5_ages : List Cond := .code yX5_ages cX5_ages 6 (some .int) :: ([.methodLink RX5 79 yX5_isIn, .static yX5_isIn, .initialized RX5, .code yX5_isIn cX5_isIn 3 (some .boolean), .methodLink RX5 68 yX5_no, .instanceMethod yX5_no, .selects RX5 yX5_no yX5_no, .code yX5_no cX5_no 2 (some .int), .fieldLink RX5 7 "UpWhenDiesModel" "refused" "[I", .methodLink RX5 113 yX5_entryOf, .static yX5_entryOf, .code yX5_entryOf cX5_entryOf 3 (some .int), .methodLink RX5 117 yX5_whoOn, .instanceMethod yX5_whoOn, .selects RX5 yX5_whoOn yX5_whoOn, .code yX5_whoOn cX5_whoOn 3 (some .int), .fieldLink RX5 57 "UpWhenDiesModel" "lodgers" "I", .fieldLink RX5 19 "UpWhenDiesModel" "floorOf" "[I"] ++ wsX50)
def wsX5_row : List Cond := .code yX5_row cX5_row 3 (some .int) :: ([.fieldLink RX5 201 "UpWhenDiesModel" "rowMany" "I", .fieldLink RX5 52 "UpWhenDiesModel" "row" "[I", .methodLink RX5 61 yX5_bound, .static yX5_bound, .initialized RX5, .code yX5_bound cX5_bound 3 (some .int), .methodLink RX5 68 yX5_no, .instanceMethod yX5_no, .selects RX5 yX5_no yX5_no, .code yX5_no cX5_no 2 (some .int), .fieldLink RX5 7 "UpWhenDiesModel" "refused" "[I"] ++ wsX50)
def wsX5_doesFit : List Cond := .code yX5_doesFit cX5_doesFit 5 (some .boolean) :: ([.fieldLink RX5 57 "UpWhenDiesModel" "lodgers" "I", .fieldLink RX5 19 "UpWhenDiesModel" "floorOf" "[I", .fieldLink RX5 52 "UpWhenDiesModel" "row" "[I", .methodLink RX5 156 yX5_movesOf, .instanceMethod yX5_movesOf, .selects RX5 yX5_movesOf yX5_movesOf, .initialized RX5, .code yX5_movesOf cX5_movesOf 5 (some .int), .fieldLink RX5 13 "UpWhenDiesModel" "kind" "[I"] ++ wsX50)
def wsX5_fitting_r1 : List Cond := [Cond.fieldLink RX5 201 "UpWhenDiesModel" "rowMany" "I", Cond.fieldLink RX5 57 "UpWhenDiesModel" "lodgers" "I", Cond.methodLink RX5 79 yX5_isIn, Cond.static yX5_isIn, Cond.initialized RX5, Cond.code yX5_isIn cX5_isIn 3 (some .boolean), Cond.methodLink RX5 68 yX5_no, Cond.instanceMethod yX5_no, Cond.selects RX5 yX5_no yX5_no, Cond.code yX5_no cX5_no 2 (some .int), Cond.fieldLink RX5 7 "UpWhenDiesModel" "refused" "[I", Cond.methodLink RX5 159 yX5_aliveBits, Cond.instanceMethod yX5_aliveBits, Cond.selects RX5 yX5_aliveBits yX5_aliveBits, Cond.code yX5_aliveBits cX5_aliveBits 3 (some .int), Cond.fieldLink RX5 19 "UpWhenDiesModel" "floorOf" "[I", Cond.methodLink RX5 204 yX5_bits, Cond.static yX5_bits, Cond.code yX5_bits cX5_bits 3 (some .int), Cond.methodLink RX5 171 yX5_areAlive, Cond.instanceMethod yX5_areAlive, Cond.selects RX5 yX5_areAlive yX5_areAlive, Cond.code yX5_areAlive cX5_areAlive 2 (some .boolean), Cond.methodLink RX5 207 yX5_doesFit]
def wsX5_fitting_r2 : List Cond := [Cond.instanceMethod yX5_doesFit, Cond.selects RX5 yX5_doesFit yX5_doesFit, Cond.code yX5_doesFit cX5_doesFit 5 (some .boolean), Cond.fieldLink RX5 52 "UpWhenDiesModel" "row" "[I", Cond.methodLink RX5 156 yX5_movesOf, Cond.instanceMethod yX5_movesOf, Cond.selects RX5 yX5_movesOf yX5_movesOf, Cond.code yX5_movesOf cX5_movesOf 5 (some .int), Cond.fieldLink RX5 13 "UpWhenDiesModel" "kind" "[I"]
def wsX5_fitting : List Cond := .code yX5_fitting cX5_fitting 5 (some .int) :: ((wsX5_fitting_r1 ++ wsX5_fitting_r2) ++ wsX50)
def wsX5_judge : List Cond := .code yX5_judge cX5_judge 4 (some .int) :: ([.fieldLink RX5 201 "UpWhenDiesModel" "rowMany" "I", .fieldLink RX5 57 "UpWhenDiesModel" "lodgers" "I", .fieldLink RX5 19 "UpWhenDiesModel" "floorOf" "[I", .fieldLink RX5 52 "UpWhenDiesModel" "row" "[I"] ++ wsX50)
def wsX5_lots_r1 : List Cond := [Cond.fieldLink RX5 57 "UpWhenDiesModel" "lodgers" "I", Cond.fieldLink RX5 19 "UpWhenDiesModel" "floorOf" "[I", Cond.constant RX5 210 (1664525), Cond.constant RX5 211 (1013904223), Cond.constant RX5 212 (2147483647), Cond.methodLink RX5 61 yX5_bound, Cond.static yX5_bound, Cond.initialized RX5, Cond.code yX5_bound cX5_bound 3 (some .int), Cond.methodLink RX5 68 yX5_no, Cond.instanceMethod yX5_no, Cond.selects RX5 yX5_no yX5_no, Cond.code yX5_no cX5_no 2 (some .int), Cond.fieldLink RX5 7 "UpWhenDiesModel" "refused" "[I", Cond.methodLink RX5 129 yX5_passesAll, Cond.instanceMethod yX5_passesAll, Cond.selects RX5 yX5_passesAll yX5_passesAll, Cond.code yX5_passesAll cX5_passesAll 3 none, Cond.fieldLink RX5 140 "UpWhenDiesModel" "cursor" "I", Cond.fieldLink RX5 136 "UpWhenDiesModel" "isKeeping" "Z", Cond.fieldLink RX5 13 "UpWhenDiesModel" "kind" "[I", Cond.fieldLink RX5 16 "UpWhenDiesModel" "age" "[I", Cond.fieldLink RX5 22 "UpWhenDiesModel" "load" "[I", Cond.fieldLink RX5 25 "UpWhenDiesModel" "wishOf" "[I"]
def wsX5_lots_r2 : List Cond := [Cond.fieldLink RX5 107 "UpWhenDiesModel" "year" "I", Cond.methodLink RX5 143 yX5_passes, Cond.instanceMethod yX5_passes, Cond.selects RX5 yX5_passes yX5_passes, Cond.code yX5_passes cX5_passes 3 none, Cond.fieldLink RX5 46 "UpWhenDiesModel" "kept" "[I", Cond.methodLink RX5 147 yX5_passOne, Cond.instanceMethod yX5_passOne, Cond.selects RX5 yX5_passOne yX5_passOne, Cond.code yX5_passOne cX5_passOne 3 (some .int), Cond.methodLink RX5 162 yX5_chanceOf, Cond.instanceMethod yX5_chanceOf, Cond.selects RX5 yX5_chanceOf yX5_chanceOf, Cond.code yX5_chanceOf cX5_chanceOf 3 (some .int), Cond.methodLink RX5 153 yX5_least, Cond.static yX5_least, Cond.code yX5_least cX5_least 2 (some .int), Cond.methodLink RX5 110 yX5_goesYear, Cond.instanceMethod yX5_goesYear, Cond.selects RX5 yX5_goesYear yX5_goesYear, Cond.code yX5_goesYear cX5_goesYear 4 (some .int), Cond.fieldLink RX5 49 "UpWhenDiesModel" "moving" "[I", Cond.methodLink RX5 156 yX5_movesOf, Cond.instanceMethod yX5_movesOf]
def wsX5_lots_r3 : List Cond := [Cond.selects RX5 yX5_movesOf yX5_movesOf, Cond.code yX5_movesOf cX5_movesOf 5 (some .int), Cond.methodLink RX5 159 yX5_aliveBits, Cond.instanceMethod yX5_aliveBits, Cond.selects RX5 yX5_aliveBits yX5_aliveBits, Cond.code yX5_aliveBits cX5_aliveBits 3 (some .int)]
def wsX5_lots : List Cond := .code yX5_lots cX5_lots 8 (some .int) :: ((wsX5_lots_r1 ++ (wsX5_lots_r2 ++ wsX5_lots_r3)) ++ wsX50)
def wsX5_count : List Cond := .code yX5_count cX5_count 4 (some .int) :: ([.fieldLink RX5 7 "UpWhenDiesModel" "refused" "[I", .fieldLink RX5 57 "UpWhenDiesModel" "lodgers" "I", .fieldLink RX5 107 "UpWhenDiesModel" "year" "I", .fieldLink RX5 19 "UpWhenDiesModel" "floorOf" "[I", .fieldLink RX5 22 "UpWhenDiesModel" "load" "[I", .fieldLink RX5 16 "UpWhenDiesModel" "age" "[I", .fieldLink RX5 201 "UpWhenDiesModel" "rowMany" "I", .fieldLink RX5 65 "UpWhenDiesModel" "taped" "I", .methodLink RX5 79 yX5_isIn, .static yX5_isIn, .initialized RX5, .code yX5_isIn cX5_isIn 3 (some .boolean), .methodLink RX5 159 yX5_aliveBits, .instanceMethod yX5_aliveBits, .selects RX5 yX5_aliveBits yX5_aliveBits, .code yX5_aliveBits cX5_aliveBits 3 (some .int), .methodLink RX5 204 yX5_bits, .static yX5_bits, .code yX5_bits cX5_bits 3 (some .int)] ++ wsX50)
def wsJ9_max_7cf53 : List Cond := .code yJ9_max_7cf53 cJ9_max_7cf53 2 (some .int) :: ([])
def wsJ9_min_7cf53 : List Cond := .code yJ9_min_7cf53 cJ9_min_7cf53 2 (some .int) :: ([])
def wsL_law_r1 : List Cond := [Cond.classLink RL 7 RX4, Cond.instantiable RX4 9, Cond.initialized RX4, Cond.classLink RL 10 RX5, Cond.instantiable RX5 24, Cond.initialized RX5, Cond.methodLink RL 9 yX4_init, Cond.instanceMethod yX4_init, Cond.code yX4_init cX4_init 1 none, Cond.methodLink RX4 1 objectInit, Cond.instanceMethod objectInit, Cond.code objectInit ⟨#[0xb1]⟩ 1 none, Cond.classLink RX4 7 RX3, Cond.instantiable RX3 7, Cond.initialized RX3, Cond.fieldLink RX4 10 "UpWhenDies" "now" "LUpWhenDies$Tower;", Cond.fieldLink RX4 16 "UpWhenDies" "trial" "LUpWhenDies$Tower;", Cond.fieldLink RX4 19 "UpWhenDies" "kept" "LUpWhenDies$Tower;", Cond.classLink RX4 22 RX2, Cond.instantiable RX2 2, Cond.initialized RX2, Cond.fieldLink RX4 25 "UpWhenDies" "telling" "LUpWhenDies$Telling;", Cond.classLink RX4 29 RX1, Cond.instantiable RX1 3]
def wsL_law_r2 : List Cond := [Cond.initialized RX1, Cond.fieldLink RX4 32 "UpWhenDies" "odds" "LUpWhenDies$Odds;", Cond.arrayClass .int, Cond.fieldLink RX4 36 "UpWhenDies" "told" "[I", Cond.fieldLink RX4 40 "UpWhenDies" "refused" "[I", Cond.instanceMethod yX3_init, Cond.code yX3_init cX3_init 1 none, Cond.methodLink RX3 3 objectInit, Cond.fieldLink RX3 9 "UpWhenDies$Tower" "kind" "[I", Cond.fieldLink RX3 15 "UpWhenDies$Tower" "age" "[I", Cond.fieldLink RX3 18 "UpWhenDies$Tower" "floor" "[I", Cond.fieldLink RX3 21 "UpWhenDies$Tower" "load" "[I", Cond.fieldLink RX3 24 "UpWhenDies$Tower" "wished" "[I", Cond.instanceMethod yX2_init, Cond.code yX2_init cX2_init 1 none, Cond.methodLink RX2 3 objectInit, Cond.fieldLink RX2 9 "UpWhenDies$Telling" "letters" "[I", Cond.instanceMethod yX1_init, Cond.code yX1_init cX1_init 1 none, Cond.methodLink RX1 3 objectInit, Cond.arrayClass .long, Cond.fieldLink RX1 9 "UpWhenDies$Odds" "byDeaths" "[J", Cond.methodLink RL 12 yX5_init, Cond.instanceMethod yX5_init]
def wsL_law_r3 : List Cond := [Cond.code yX5_init cX5_init 1 none, Cond.methodLink RX5 1 objectInit, Cond.fieldLink RX5 7 "UpWhenDiesModel" "refused" "[I", Cond.fieldLink RX5 13 "UpWhenDiesModel" "kind" "[I", Cond.fieldLink RX5 16 "UpWhenDiesModel" "age" "[I", Cond.fieldLink RX5 19 "UpWhenDiesModel" "floorOf" "[I", Cond.fieldLink RX5 22 "UpWhenDiesModel" "load" "[I", Cond.fieldLink RX5 25 "UpWhenDiesModel" "wishOf" "[I", Cond.fieldLink RX5 28 "UpWhenDiesModel" "tape" "[I", Cond.fieldLink RX5 31 "UpWhenDiesModel" "letter" "[I", Cond.fieldLink RX5 34 "UpWhenDiesModel" "letterAt" "[I", Cond.fieldLink RX5 37 "UpWhenDiesModel" "number" "[I", Cond.fieldLink RX5 40 "UpWhenDiesModel" "from" "[I", Cond.fieldLink RX5 43 "UpWhenDiesModel" "till" "[I", Cond.fieldLink RX5 46 "UpWhenDiesModel" "kept" "[I", Cond.fieldLink RX5 49 "UpWhenDiesModel" "moving" "[I", Cond.fieldLink RX5 52 "UpWhenDiesModel" "row" "[I", Cond.methodLink RL 13 yX4_letter, Cond.instanceMethod yX4_letter, Cond.selects RX4 yX4_letter yX4_letter, Cond.code yX4_letter cX4_letter 2 (some .int), Cond.methodLink RX4 43 yX4_refuse, Cond.instanceMethod yX4_refuse, Cond.selects RX4 yX4_refuse yX4_refuse]
def wsL_law_r4 : List Cond := [Cond.code yX4_refuse cX4_refuse 3 (some .int), Cond.methodLink RX4 47 yX2_isFull, Cond.instanceMethod yX2_isFull, Cond.selects RX2 yX2_isFull yX2_isFull, Cond.code yX2_isFull cX2_isFull 1 (some .boolean), Cond.fieldLink RX2 15 "UpWhenDies$Telling" "size" "I", Cond.methodLink RX4 51 yX2_add, Cond.instanceMethod yX2_add, Cond.selects RX2 yX2_add yX2_add, Cond.code yX2_add cX2_add 2 (some .int), Cond.methodLink RL 17 yX5_letter, Cond.instanceMethod yX5_letter, Cond.selects RX5 yX5_letter yX5_letter, Cond.code yX5_letter cX5_letter 3 (some .int), Cond.fieldLink RX5 65 "UpWhenDiesModel" "taped" "I", Cond.methodLink RX5 61 yX5_bound, Cond.static yX5_bound, Cond.code yX5_bound cX5_bound 3 (some .int), Cond.methodLink RX5 68 yX5_no, Cond.instanceMethod yX5_no, Cond.selects RX5 yX5_no yX5_no, Cond.code yX5_no cX5_no 2 (some .int), Cond.methodLink RL 18 yX4_house, Cond.instanceMethod yX4_house]
def wsL_law_r5 : List Cond := [Cond.selects RX4 yX4_house yX4_house, Cond.code yX4_house cX4_house 2 (some .int), Cond.methodLink RX4 54 yX4_takeHouse, Cond.instanceMethod yX4_takeHouse, Cond.selects RX4 yX4_takeHouse yX4_takeHouse, Cond.code yX4_takeHouse cX4_takeHouse 2 (some .int), Cond.methodLink RX4 197 yX2_firstMisfit, Cond.instanceMethod yX2_firstMisfit, Cond.selects RX2 yX2_firstMisfit yX2_firstMisfit, Cond.code yX2_firstMisfit cX2_firstMisfit 3 (some .int), Cond.methodLink RX2 19 yX2_letterAt, Cond.instanceMethod yX2_letterAt, Cond.selects RX2 yX2_letterAt yX2_letterAt, Cond.code yX2_letterAt cX2_letterAt 2 (some .int), Cond.methodLink RX2 23 yX2_behind, Cond.static yX2_behind, Cond.code yX2_behind cX2_behind 2 (some .int), Cond.methodLink RX2 38 yX2_behindStart, Cond.static yX2_behindStart, Cond.code yX2_behindStart cX2_behindStart 1 (some .int), Cond.methodLink RX2 41 yX0_ofLetter, Cond.static yX0_ofLetter, Cond.initialized RX0, Cond.code yX0_ofLetter cX0_ofLetter 1 (some .int)]
def wsL_law_r6 : List Cond := [Cond.methodLink RX2 46 yX2_isDigit, Cond.static yX2_isDigit, Cond.code yX2_isDigit cX2_isDigit 1 (some .boolean), Cond.methodLink RX2 50 yX2_behindAge, Cond.static yX2_behindAge, Cond.code yX2_behindAge cX2_behindAge 1 (some .int), Cond.methodLink RX2 53 yX2_behindDead, Cond.static yX2_behindDead, Cond.code yX2_behindDead cX2_behindDead 2 (some .int), Cond.methodLink RX4 177 yX3_becomeLike, Cond.instanceMethod yX3_becomeLike, Cond.selects RX3 yX3_becomeLike yX3_becomeLike, Cond.code yX3_becomeLike cX3_becomeLike 3 none, Cond.fieldLink RX3 27 "UpWhenDies$Tower" "came" "I", Cond.fieldLink RX3 31 "UpWhenDies$Tower" "yearNow" "I", Cond.methodLink RX4 200 yX2_playOn, Cond.instanceMethod yX2_playOn, Cond.selects RX2 yX2_playOn yX2_playOn, Cond.code yX2_playOn cX2_playOn 5 (some .int), Cond.methodLink RX2 27 yX2_playLodger, Cond.instanceMethod yX2_playLodger, Cond.selects RX2 yX2_playLodger yX2_playLodger, Cond.code yX2_playLodger cX2_playLodger 7 (some .boolean), Cond.methodLink RX2 56 yX2_digitAt]
def wsL_law_r7 : List Cond := [Cond.instanceMethod yX2_digitAt, Cond.selects RX2 yX2_digitAt yX2_digitAt, Cond.code yX2_digitAt cX2_digitAt 2 (some .int), Cond.methodLink RX2 59 yX3_couldComeIn, Cond.instanceMethod yX3_couldComeIn, Cond.selects RX3 yX3_couldComeIn yX3_couldComeIn, Cond.code yX3_couldComeIn cX3_couldComeIn 3 (some .boolean), Cond.methodLink RX3 42 yX3_isFull, Cond.instanceMethod yX3_isFull, Cond.selects RX3 yX3_isFull yX3_isFull, Cond.code yX3_isFull cX3_isFull 1 (some .boolean), Cond.methodLink RX3 46 yX0_entryFloor, Cond.static yX0_entryFloor, Cond.code yX0_entryFloor cX0_entryFloor 3 (some .int), Cond.methodLink RX0 11 Lib.Math.max.name, Cond.static Lib.Math.max.name, Cond.initialized "java/lang/Math", Cond.code Lib.Math.max.name Lib.Math.max.code 2 (some .int), Cond.methodLink RX3 52 yX3_whoLivesOn, Cond.instanceMethod yX3_whoLivesOn, Cond.selects RX3 yX3_whoLivesOn yX3_whoLivesOn, Cond.code yX3_whoLivesOn cX3_whoLivesOn 3 (some .int), Cond.methodLink RX3 38 yX3_isAlive, Cond.instanceMethod yX3_isAlive]
def wsL_law_r8 : List Cond := [Cond.selects RX3 yX3_isAlive yX3_isAlive, Cond.code yX3_isAlive cX3_isAlive 2 (some .boolean), Cond.methodLink RX2 65 yX3_admit, Cond.instanceMethod yX3_admit, Cond.selects RX3 yX3_admit yX3_admit, Cond.code yX3_admit cX3_admit 5 (some .int), Cond.methodLink RX2 31 yX2_playWish, Cond.instanceMethod yX2_playWish, Cond.selects RX2 yX2_playWish yX2_playWish, Cond.code yX2_playWish cX2_playWish 4 (some .boolean), Cond.fieldLink RX2 72 "UpWhenDies$Tower" "wished" "[I", Cond.methodLink RX2 69 yX3_isAlive, Cond.methodLink RX2 35 yX2_playYear, Cond.instanceMethod yX2_playYear, Cond.selects RX2 yX2_playYear yX2_playYear, Cond.code yX2_playYear cX2_playYear 7 (some .boolean), Cond.fieldLink RX2 78 "UpWhenDies$Tower" "yearNow" "I", Cond.methodLink RX2 75 yX3_holds, Cond.static yX3_holds, Cond.code yX3_holds cX3_holds 2 (some .boolean), Cond.methodLink RX2 81 yX3_passYear, Cond.instanceMethod yX3_passYear, Cond.selects RX3 yX3_passYear yX3_passYear, Cond.code yX3_passYear cX3_passYear 8 (some .int)]
def wsL_law_r9 : List Cond := [Cond.methodLink RX3 80 yX3_floorsOf, Cond.instanceMethod yX3_floorsOf, Cond.selects RX3 yX3_floorsOf yX3_floorsOf, Cond.code yX3_floorsOf cX3_floorsOf 4 (some .int), Cond.methodLink RX3 68 yX3_holds, Cond.methodLink RX3 34 yX3_living, Cond.instanceMethod yX3_living, Cond.selects RX3 yX3_living yX3_living, Cond.code yX3_living cX3_living 3 (some .int), Cond.methodLink RX3 83 yX3_floorsUp, Cond.instanceMethod yX3_floorsUp, Cond.selects RX3 yX3_floorsUp yX3_floorsUp, Cond.code yX3_floorsUp cX3_floorsUp 3 (some .int), Cond.methodLink RX3 72 yX3_staysDown, Cond.instanceMethod yX3_staysDown, Cond.selects RX3 yX3_staysDown yX3_staysDown, Cond.code yX3_staysDown cX3_staysDown 2 (some .boolean), Cond.methodLink RX3 75 yJ6_bitCount_0f7a4, Cond.static yJ6_bitCount_0f7a4, Cond.initialized RJ6, Cond.code yJ6_bitCount_0f7a4 cJ6_bitCount_0f7a4 1 (some .int), Cond.constant RJ6 265 (1431655765), Cond.constant RJ6 266 (858993459), Cond.constant RJ6 267 (252645135)]
def wsL_law_r10 : List Cond := [Cond.methodLink RX3 56 yX3_ageAfter, Cond.instanceMethod yX3_ageAfter, Cond.selects RX3 yX3_ageAfter yX3_ageAfter, Cond.code yX3_ageAfter cX3_ageAfter 3 (some .int), Cond.methodLink RX3 98 Lib.Math.min.name, Cond.static Lib.Math.min.name, Cond.code Lib.Math.min.name Lib.Math.min.code 2 (some .int), Cond.methodLink RX4 204 yX2_statements, Cond.instanceMethod yX2_statements, Cond.selects RX2 yX2_statements yX2_statements, Cond.code yX2_statements cX2_statements 3 (some .int), Cond.methodLink RX4 58 yX2_forget, Cond.instanceMethod yX2_forget, Cond.selects RX2 yX2_forget yX2_forget, Cond.code yX2_forget cX2_forget 1 none, Cond.methodLink RL 22 yX5_house, Cond.instanceMethod yX5_house, Cond.selects RX5 yX5_house yX5_house, Cond.code yX5_house cX5_house 3 (some .int), Cond.fieldLink RX5 72 "UpWhenDiesModel" "at" "I", Cond.fieldLink RX5 94 "UpWhenDiesModel" "statements" "I", Cond.methodLink RX5 126 yX5_statement, Cond.instanceMethod yX5_statement, Cond.selects RX5 yX5_statement yX5_statement]
def wsL_law_r11 : List Cond := [Cond.code yX5_statement cX5_statement 4 (some .boolean), Cond.methodLink RX5 75 yX5_next, Cond.instanceMethod yX5_next, Cond.selects RX5 yX5_next yX5_next, Cond.code yX5_next cX5_next 1 (some .int), Cond.methodLink RX5 97 yX5_readsLodger, Cond.instanceMethod yX5_readsLodger, Cond.selects RX5 yX5_readsLodger yX5_readsLodger, Cond.code yX5_readsLodger cX5_readsLodger 2 (some .boolean), Cond.methodLink RX5 87 yX5_kindOf, Cond.static yX5_kindOf, Cond.code yX5_kindOf cX5_kindOf 1 (some .int), Cond.methodLink RX5 90 yX5_readsNumber, Cond.instanceMethod yX5_readsNumber, Cond.selects RX5 yX5_readsNumber yX5_readsNumber, Cond.code yX5_readsNumber cX5_readsNumber 5 (some .boolean), Cond.methodLink RX5 83 yX5_isDigit, Cond.instanceMethod yX5_isDigit, Cond.selects RX5 yX5_isDigit yX5_isDigit, Cond.code yX5_isDigit cX5_isDigit 1 (some .boolean), Cond.methodLink RX5 79 yX5_isIn, Cond.static yX5_isIn, Cond.code yX5_isIn cX5_isIn 3 (some .boolean), Cond.methodLink RX5 101 yX5_readsDeaths]
def wsL_law_r12 : List Cond := [Cond.instanceMethod yX5_readsDeaths, Cond.selects RX5 yX5_readsDeaths yX5_readsDeaths, Cond.code yX5_readsDeaths cX5_readsDeaths 1 (some .boolean), Cond.methodLink RX5 129 yX5_passesAll, Cond.instanceMethod yX5_passesAll, Cond.selects RX5 yX5_passesAll yX5_passesAll, Cond.code yX5_passesAll cX5_passesAll 3 none, Cond.fieldLink RX5 140 "UpWhenDiesModel" "cursor" "I", Cond.fieldLink RX5 136 "UpWhenDiesModel" "isKeeping" "Z", Cond.fieldLink RX5 57 "UpWhenDiesModel" "lodgers" "I", Cond.fieldLink RX5 107 "UpWhenDiesModel" "year" "I", Cond.methodLink RX5 143 yX5_passes, Cond.instanceMethod yX5_passes, Cond.selects RX5 yX5_passes yX5_passes, Cond.code yX5_passes cX5_passes 3 none, Cond.methodLink RX5 147 yX5_passOne, Cond.instanceMethod yX5_passOne, Cond.selects RX5 yX5_passOne yX5_passOne, Cond.code yX5_passOne cX5_passOne 3 (some .int), Cond.methodLink RX5 133 yX5_comes, Cond.instanceMethod yX5_comes, Cond.selects RX5 yX5_comes yX5_comes, Cond.code yX5_comes cX5_comes 3 (some .boolean), Cond.methodLink RX5 120 yX5_comesIn]
def wsL_law_r13 : List Cond := [Cond.instanceMethod yX5_comesIn, Cond.selects RX5 yX5_comesIn yX5_comesIn, Cond.code yX5_comesIn cX5_comesIn 5 (some .boolean), Cond.methodLink RX5 113 yX5_entryOf, Cond.static yX5_entryOf, Cond.code yX5_entryOf cX5_entryOf 3 (some .int), Cond.methodLink RX5 117 yX5_whoOn, Cond.instanceMethod yX5_whoOn, Cond.selects RX5 yX5_whoOn yX5_whoOn, Cond.code yX5_whoOn cX5_whoOn 3 (some .int), Cond.methodLink RX5 123 yX5_comesYear, Cond.instanceMethod yX5_comesYear, Cond.selects RX5 yX5_comesYear yX5_comesYear, Cond.code yX5_comesYear cX5_comesYear 5 (some .boolean), Cond.methodLink RX5 104 yX5_isAlive, Cond.instanceMethod yX5_isAlive, Cond.selects RX5 yX5_isAlive yX5_isAlive, Cond.code yX5_isAlive cX5_isAlive 2 (some .boolean), Cond.methodLink RX5 110 yX5_goesYear, Cond.instanceMethod yX5_goesYear, Cond.selects RX5 yX5_goesYear yX5_goesYear, Cond.code yX5_goesYear cX5_goesYear 4 (some .int), Cond.methodLink RX5 156 yX5_movesOf, Cond.instanceMethod yX5_movesOf]
def wsL_law_r14 : List Cond := [Cond.selects RX5 yX5_movesOf yX5_movesOf, Cond.code yX5_movesOf cX5_movesOf 5 (some .int), Cond.methodLink RX5 153 yX5_least, Cond.static yX5_least, Cond.code yX5_least cX5_least 2 (some .int), Cond.methodLink RL 23 yX4_enter, Cond.instanceMethod yX4_enter, Cond.selects RX4 yX4_enter yX4_enter, Cond.code yX4_enter cX4_enter 4 (some .int), Cond.methodLink RX4 61 yX4_isKind, Cond.static yX4_isKind, Cond.code yX4_isKind cX4_isKind 1 (some .boolean), Cond.methodLink RX4 65 yX3_isFull, Cond.methodLink RX4 66 yX3_couldComeIn, Cond.methodLink RX4 70 yX3_admit, Cond.methodLink RL 27 yX5_enter, Cond.instanceMethod yX5_enter, Cond.selects RX5 yX5_enter yX5_enter, Cond.code yX5_enter cX5_enter 5 (some .int), Cond.methodLink RL 28 yX4_lodger, Cond.instanceMethod yX4_lodger, Cond.selects RX4 yX4_lodger yX4_lodger, Cond.code yX4_lodger cX4_lodger 3 (some .int), Cond.fieldLink RX4 77 "UpWhenDies$Tower" "kind" "[I"]
def wsL_law_r15 : List Cond := [Cond.fieldLink RX4 80 "UpWhenDies$Tower" "age" "[I", Cond.fieldLink RX4 83 "UpWhenDies$Tower" "floor" "[I", Cond.fieldLink RX4 86 "UpWhenDies$Tower" "load" "[I", Cond.methodLink RX4 74 yX3_isAlive, Cond.methodLink RX4 89 yX3_chanceAfter, Cond.instanceMethod yX3_chanceAfter, Cond.selects RX3 yX3_chanceAfter yX3_chanceAfter, Cond.code yX3_chanceAfter cX3_chanceAfter 3 (some .int), Cond.methodLink RX3 59 yX0_chance, Cond.static yX0_chance, Cond.code yX0_chance cX0_chance 3 (some .int), Cond.methodLink RX0 17 yX0_strongChance, Cond.static yX0_strongChance, Cond.code yX0_strongChance cX0_strongChance 1 (some .int), Cond.methodLink RX0 21 yX0_illChance, Cond.static yX0_illChance, Cond.code yX0_illChance cX0_illChance 1 (some .int), Cond.methodLink RX0 24 Lib.Math.min.name, Cond.methodLink RX4 93 yX3_climbAfter, Cond.instanceMethod yX3_climbAfter, Cond.selects RX3 yX3_climbAfter yX3_climbAfter, Cond.code yX3_climbAfter cX3_climbAfter 3 (some .int), Cond.methodLink RX3 62 yX0_climb, Cond.static yX0_climb]
def wsL_law_r16 : List Cond := [Cond.code yX0_climb cX0_climb 3 (some .int), Cond.methodLink RX4 96 yX3_wishTold, Cond.instanceMethod yX3_wishTold, Cond.selects RX3 yX3_wishTold yX3_wishTold, Cond.code yX3_wishTold cX3_wishTold 2 (some .int), Cond.methodLink RL 32 yX5_lodger, Cond.instanceMethod yX5_lodger, Cond.selects RX5 yX5_lodger yX5_lodger, Cond.code yX5_lodger cX5_lodger 3 (some .int), Cond.methodLink RX5 162 yX5_chanceOf, Cond.instanceMethod yX5_chanceOf, Cond.selects RX5 yX5_chanceOf yX5_chanceOf, Cond.code yX5_chanceOf cX5_chanceOf 3 (some .int), Cond.methodLink RX5 165 yX5_climbs, Cond.static yX5_climbs, Cond.code yX5_climbs cX5_climbs 3 (some .int), Cond.methodLink RL 33 yX4_wish, Cond.instanceMethod yX4_wish, Cond.selects RX4 yX4_wish yX4_wish, Cond.code yX4_wish cX4_wish 4 (some .int), Cond.fieldLink RX4 102 "UpWhenDies$Tower" "wished" "[I", Cond.methodLink RX4 99 yX4_isFloor, Cond.static yX4_isFloor, Cond.code yX4_isFloor cX4_isFloor 1 (some .boolean)]
def wsL_law_r17 : List Cond := [Cond.methodLink RL 36 yX5_wish, Cond.instanceMethod yX5_wish, Cond.selects RX5 yX5_wish yX5_wish, Cond.code yX5_wish cX5_wish 4 (some .int), Cond.methodLink RX5 168 yX5_isFloor, Cond.static yX5_isFloor, Cond.code yX5_isFloor cX5_isFloor 1 (some .boolean), Cond.methodLink RL 37 yX4_year, Cond.instanceMethod yX4_year, Cond.selects RX4 yX4_year yX4_year, Cond.code yX4_year cX4_year 2 (some .int), Cond.fieldLink RX4 108 "UpWhenDies$Tower" "yearNow" "I", Cond.methodLink RX4 105 yX3_areAlive, Cond.instanceMethod yX3_areAlive, Cond.selects RX3 yX3_areAlive yX3_areAlive, Cond.code yX3_areAlive cX3_areAlive 2 (some .boolean), Cond.methodLink RX4 112 yX3_passYear, Cond.methodLink RL 40 yX5_year, Cond.instanceMethod yX5_year, Cond.selects RX5 yX5_year yX5_year, Cond.code yX5_year cX5_year 2 (some .int), Cond.methodLink RX5 171 yX5_areAlive, Cond.instanceMethod yX5_areAlive, Cond.selects RX5 yX5_areAlive yX5_areAlive]
def wsL_law_r18 : List Cond := [Cond.code yX5_areAlive cX5_areAlive 2 (some .boolean), Cond.methodLink RX5 159 yX5_aliveBits, Cond.instanceMethod yX5_aliveBits, Cond.selects RX5 yX5_aliveBits yX5_aliveBits, Cond.code yX5_aliveBits cX5_aliveBits 3 (some .int), Cond.methodLink RL 41 yX4_on, Cond.instanceMethod yX4_on, Cond.selects RX4 yX4_on yX4_on, Cond.code yX4_on cX4_on 3 (some .int), Cond.methodLink RX4 115 yX3_whoLivesOn, Cond.methodLink RL 44 yX5_on, Cond.instanceMethod yX5_on, Cond.selects RX5 yX5_on yX5_on, Cond.code yX5_on cX5_on 2 (some .int), Cond.methodLink RL 45 yX4_likely, Cond.instanceMethod yX4_likely, Cond.selects RX4 yX4_likely yX4_likely, Cond.code yX4_likely cX4_likely 5 (some .long), Cond.fieldLink RX4 126 "UpWhenDies$Odds" "above" "J", Cond.fieldLink RX4 130 "UpWhenDies$Odds" "below" "J", Cond.methodLink RX4 118 yX4_refuseLong, Cond.instanceMethod yX4_refuseLong, Cond.selects RX4 yX4_refuseLong yX4_refuseLong, Cond.code yX4_refuseLong cX4_refuseLong 2 (some .long)]
def wsL_law_r19 : List Cond := [Cond.constantLong RX4 195 (4000000000000000000), Cond.methodLink RX4 122 yX1_reckon, Cond.instanceMethod yX1_reckon, Cond.selects RX1 yX1_reckon yX1_reckon, Cond.code yX1_reckon cX1_reckon 8 none, Cond.constantLong RX1 15 (10), Cond.constantLong RX1 17 (100), Cond.fieldLink RX1 28 "UpWhenDies$Tower" "floor" "[I", Cond.methodLink RX1 40 Lib.Math.max.name, Cond.fieldLink RX1 53 "UpWhenDies$Odds" "above" "J", Cond.fieldLink RX1 57 "UpWhenDies$Odds" "below" "J", Cond.methodLink RX1 19 yX1_clear, Cond.instanceMethod yX1_clear, Cond.selects RX1 yX1_clear yX1_clear, Cond.code yX1_clear cX1_clear 2 none, Cond.methodLink RX1 22 yX3_isAlive, Cond.methodLink RX1 32 yX1_survival, Cond.static yX1_survival, Cond.code yX1_survival cX1_survival 6 (some .long), Cond.methodLink RX1 63 yX3_chanceAfter, Cond.methodLink RX1 36 yX1_addOneAbove, Cond.instanceMethod yX1_addOneAbove, Cond.selects RX1 yX1_addOneAbove yX1_addOneAbove, Cond.code yX1_addOneAbove cX1_addOneAbove 6 none]
def wsL_law_r20 : List Cond := [Cond.methodLink RX1 46 yX3_staysDown, Cond.methodLink RX1 49 yX1_atLeast, Cond.instanceMethod yX1_atLeast, Cond.selects RX1 yX1_atLeast yX1_atLeast, Cond.code yX1_atLeast cX1_atLeast 5 (some .long), Cond.methodLink RX1 60 yX1_shorten, Cond.instanceMethod yX1_shorten, Cond.selects RX1 yX1_shorten yX1_shorten, Cond.code yX1_shorten cX1_shorten 8 none, Cond.methodLink RL 49 yX5_likely, Cond.instanceMethod yX5_likely, Cond.selects RX5 yX5_likely yX5_likely, Cond.code yX5_likely cX5_likely 10 (some .long), Cond.constantLong RX5 174 (10), Cond.methodLink RX5 184 yX5_lowest, Cond.instanceMethod yX5_lowest, Cond.selects RX5 yX5_lowest yX5_lowest, Cond.code yX5_lowest cX5_lowest 2 (some .long), Cond.constantLong RX5 55 (4000000000000000000), Cond.methodLink RX5 180 yX5_partsTo, Cond.instanceMethod yX5_partsTo, Cond.selects RX5 yX5_partsTo yX5_partsTo, Cond.code yX5_partsTo cX5_partsTo 9 (some .long), Cond.methodLink RX5 176 yX5_partsOf]
def wsL_law_r21 : List Cond := [Cond.instanceMethod yX5_partsOf, Cond.selects RX5 yX5_partsOf yX5_partsOf, Cond.code yX5_partsOf cX5_partsOf 5 (some .long), Cond.methodLink RX5 187 yX5_partsInTwo, Cond.instanceMethod yX5_partsInTwo, Cond.selects RX5 yX5_partsInTwo yX5_partsInTwo, Cond.code yX5_partsInTwo cX5_partsInTwo 8 (some .long), Cond.methodLink RX5 191 yX5_divisor, Cond.static yX5_divisor, Cond.code yX5_divisor cX5_divisor 10 (some .long), Cond.methodLink RL 50 yX4_mean, Cond.instanceMethod yX4_mean, Cond.selects RX4 yX4_mean yX4_mean, Cond.code yX4_mean cX4_mean 3 (some .int), Cond.methodLink RL 53 yX5_mean, Cond.instanceMethod yX5_mean, Cond.selects RX5 yX5_mean yX5_mean, Cond.code yX5_mean cX5_mean 3 (some .int), Cond.methodLink RL 54 yX4_deaths, Cond.instanceMethod yX4_deaths, Cond.selects RX4 yX4_deaths yX4_deaths, Cond.code yX4_deaths cX4_deaths 5 (some .int), Cond.methodLink RX4 133 yX3_staysDown, Cond.methodLink RX4 136 yX3_living]
def wsL_law_r22 : List Cond := [Cond.methodLink RX4 139 yX3_floorsOf, Cond.methodLink RX4 142 yX3_floorsUp, Cond.methodLink RX4 145 yX3_likeliestAbove, Cond.instanceMethod yX3_likeliestAbove, Cond.selects RX3 yX3_likeliestAbove yX3_likeliestAbove, Cond.code yX3_likeliestAbove cX3_likeliestAbove 7 (some .int), Cond.methodLink RX3 86 yX3_chanceAfter, Cond.methodLink RL 57 yX5_deaths, Cond.instanceMethod yX5_deaths, Cond.selects RX5 yX5_deaths yX5_deaths, Cond.code yX5_deaths cX5_deaths 9 (some .int), Cond.methodLink RL 58 yX4_stuck, Cond.instanceMethod yX4_stuck, Cond.selects RX4 yX4_stuck yX4_stuck, Cond.code yX4_stuck cX4_stuck 3 (some .int), Cond.methodLink RX4 148 yX3_isOutOfReach, Cond.instanceMethod yX3_isOutOfReach, Cond.selects RX3 yX3_isOutOfReach yX3_isOutOfReach, Cond.code yX3_isOutOfReach cX3_isOutOfReach 3 (some .boolean), Cond.methodLink RX3 65 yX3_climbAfter, Cond.methodLink RL 61 yX5_stuck, Cond.instanceMethod yX5_stuck, Cond.selects RX5 yX5_stuck yX5_stuck, Cond.code yX5_stuck cX5_stuck 3 (some .int)]
def wsL_law_r23 : List Cond := [Cond.methodLink RL 62 yX4_safe, Cond.instanceMethod yX4_safe, Cond.selects RX4 yX4_safe yX4_safe, Cond.code yX4_safe cX4_safe 4 (some .int), Cond.methodLink RL 65 yX5_safe, Cond.instanceMethod yX5_safe, Cond.selects RX5 yX5_safe yX5_safe, Cond.code yX5_safe cX5_safe 4 (some .int), Cond.methodLink RL 66 yX4_carried, Cond.instanceMethod yX4_carried, Cond.selects RX4 yX4_carried yX4_carried, Cond.code yX4_carried cX4_carried 2 (some .int), Cond.methodLink RX4 151 yX3_burden, Cond.instanceMethod yX3_burden, Cond.selects RX3 yX3_burden yX3_burden, Cond.code yX3_burden cX3_burden 5 (some .int), Cond.methodLink RL 69 yX5_carried, Cond.instanceMethod yX5_carried, Cond.selects RX5 yX5_carried yX5_carried, Cond.code yX5_carried cX5_carried 2 (some .int), Cond.methodLink RX5 195 yX5_carriedBy, Cond.instanceMethod yX5_carriedBy, Cond.selects RX5 yX5_carriedBy yX5_carriedBy, Cond.code yX5_carriedBy cX5_carriedBy 4 (some .int)]
def wsL_law_r24 : List Cond := [Cond.methodLink RL 70 yX4_leastCarried, Cond.instanceMethod yX4_leastCarried, Cond.selects RX4 yX4_leastCarried yX4_leastCarried, Cond.code yX4_leastCarried cX4_leastCarried 5 (some .int), Cond.methodLink RL 73 yX5_leastCarried, Cond.instanceMethod yX5_leastCarried, Cond.selects RX5 yX5_leastCarried yX5_leastCarried, Cond.code yX5_leastCarried cX5_leastCarried 3 (some .int), Cond.methodLink RL 74 yX4_rings, Cond.instanceMethod yX4_rings, Cond.selects RX4 yX4_rings yX4_rings, Cond.code yX4_rings cX4_rings 1 (some .int), Cond.methodLink RX4 154 yX3_inRings, Cond.instanceMethod yX3_inRings, Cond.selects RX3 yX3_inRings yX3_inRings, Cond.code yX3_inRings cX3_inRings 3 (some .int), Cond.methodLink RX3 89 yX3_isInRing, Cond.instanceMethod yX3_isInRing, Cond.selects RX3 yX3_isInRing yX3_isInRing, Cond.code yX3_isInRing cX3_isInRing 4 (some .boolean), Cond.methodLink RL 77 yX5_rings, Cond.instanceMethod yX5_rings, Cond.selects RX5 yX5_rings yX5_rings, Cond.code yX5_rings cX5_rings 1 (some .int)]
def wsL_law_r25 : List Cond := [Cond.methodLink RX5 198 yX5_ringBits, Cond.instanceMethod yX5_ringBits, Cond.selects RX5 yX5_ringBits yX5_ringBits, Cond.code yX5_ringBits cX5_ringBits 5 (some .int), Cond.methodLink RL 78 yX4_changing, Cond.instanceMethod yX4_changing, Cond.selects RX4 yX4_changing yX4_changing, Cond.code yX4_changing cX4_changing 1 (some .int), Cond.methodLink RX4 157 yX3_changeRings, Cond.instanceMethod yX3_changeRings, Cond.selects RX3 yX3_changeRings yX3_changeRings, Cond.code yX3_changeRings cX3_changeRings 4 (some .int), Cond.methodLink RX3 92 yX3_inRings, Cond.methodLink RL 81 yX5_changing, Cond.instanceMethod yX5_changing, Cond.selects RX5 yX5_changing yX5_changing, Cond.code yX5_changing cX5_changing 4 (some .int), Cond.methodLink RL 82 yX4_free, Cond.instanceMethod yX4_free, Cond.selects RX4 yX4_free yX4_free, Cond.code yX4_free cX4_free 1 (some .int), Cond.methodLink RL 85 yX5_free, Cond.instanceMethod yX5_free, Cond.selects RX5 yX5_free yX5_free]
def wsL_law_r26 : List Cond := [Cond.code yX5_free cX5_free 3 (some .int), Cond.methodLink RL 86 yX4_ages, Cond.instanceMethod yX4_ages, Cond.selects RX4 yX4_ages yX4_ages, Cond.code yX4_ages cX4_ages 6 (some .int), Cond.methodLink RL 89 yX5_ages, Cond.instanceMethod yX5_ages, Cond.selects RX5 yX5_ages yX5_ages, Cond.code yX5_ages cX5_ages 6 (some .int), Cond.methodLink RL 90 yX4_row, Cond.instanceMethod yX4_row, Cond.selects RX4 yX4_row yX4_row, Cond.code yX4_row cX4_row 2 (some .int), Cond.fieldLink RX4 160 "UpWhenDies" "toldSize" "I", Cond.methodLink RL 93 yX5_row, Cond.instanceMethod yX5_row, Cond.selects RX5 yX5_row yX5_row, Cond.code yX5_row cX5_row 3 (some .int), Cond.fieldLink RX5 201 "UpWhenDiesModel" "rowMany" "I", Cond.methodLink RL 94 yX4_fitting, Cond.instanceMethod yX4_fitting, Cond.selects RX4 yX4_fitting yX4_fitting, Cond.code yX4_fitting cX4_fitting 5 (some .int), Cond.methodLink RX4 163 yJ6_bitCount_0f7a4]
def wsL_law_r27 : List Cond := [Cond.methodLink RX4 168 yX4_fitsTheRow, Cond.instanceMethod yX4_fitsTheRow, Cond.selects RX4 yX4_fitsTheRow yX4_fitsTheRow, Cond.code yX4_fitsTheRow cX4_fitsTheRow 6 (some .boolean), Cond.methodLink RX4 207 yX3_holds, Cond.methodLink RL 97 yX5_fitting, Cond.instanceMethod yX5_fitting, Cond.selects RX5 yX5_fitting yX5_fitting, Cond.code yX5_fitting cX5_fitting 5 (some .int), Cond.methodLink RX5 204 yX5_bits, Cond.static yX5_bits, Cond.code yX5_bits cX5_bits 3 (some .int), Cond.methodLink RX5 207 yX5_doesFit, Cond.instanceMethod yX5_doesFit, Cond.selects RX5 yX5_doesFit yX5_doesFit, Cond.code yX5_doesFit cX5_doesFit 5 (some .boolean), Cond.methodLink RL 98 yX4_judge, Cond.instanceMethod yX4_judge, Cond.selects RX4 yX4_judge yX4_judge, Cond.code yX4_judge cX4_judge 2 (some .int), Cond.methodLink RX4 171 yX4_firstNotSo, Cond.instanceMethod yX4_firstNotSo, Cond.selects RX4 yX4_firstNotSo yX4_firstNotSo, Cond.code yX4_firstNotSo cX4_firstNotSo 3 (some .int)]
def wsL_law_r28 : List Cond := [Cond.methodLink RL 101 yX5_judge, Cond.instanceMethod yX5_judge, Cond.selects RX5 yX5_judge yX5_judge, Cond.code yX5_judge cX5_judge 4 (some .int), Cond.methodLink RL 102 yX4_lots, Cond.instanceMethod yX4_lots, Cond.selects RX4 yX4_lots yX4_lots, Cond.code yX4_lots cX4_lots 3 (some .int), Cond.methodLink RX4 174 yX3_livingByLot, Cond.instanceMethod yX3_livingByLot, Cond.selects RX3 yX3_livingByLot yX3_livingByLot, Cond.code yX3_livingByLot cX3_livingByLot 8 (some .int), Cond.constant RX3 95 (1664525), Cond.constant RX3 96 (1013904223), Cond.constant RX3 97 (2147483647), Cond.methodLink RL 105 yX5_lots, Cond.instanceMethod yX5_lots, Cond.selects RX5 yX5_lots yX5_lots, Cond.code yX5_lots cX5_lots 8 (some .int), Cond.constant RX5 210 (1664525), Cond.constant RX5 211 (1013904223), Cond.constant RX5 212 (2147483647), Cond.methodLink RL 106 yX4_image, Cond.instanceMethod yX4_image]
def wsL_law_r29 : List Cond := [Cond.selects RX4 yX4_image yX4_image, Cond.code yX4_image cX4_image 1 (some .int), Cond.fieldLink RX4 181 "UpWhenDies" "hasImage" "Z", Cond.methodLink RL 109 yX5_image, Cond.instanceMethod yX5_image, Cond.selects RX5 yX5_image yX5_image, Cond.code yX5_image cX5_image 1 (some .int), Cond.fieldLink RX5 150 "UpWhenDiesModel" "hasImage" "Z", Cond.methodLink RL 110 yX4_back, Cond.instanceMethod yX4_back, Cond.selects RX4 yX4_back yX4_back, Cond.code yX4_back cX4_back 1 (some .int), Cond.methodLink RL 113 yX5_back, Cond.instanceMethod yX5_back, Cond.selects RX5 yX5_back yX5_back, Cond.code yX5_back cX5_back 1 (some .int), Cond.methodLink RL 114 yX4_count, Cond.instanceMethod yX4_count, Cond.selects RX4 yX4_count yX4_count, Cond.code yX4_count cX4_count 2 (some .int), Cond.fieldLink RX4 185 "UpWhenDies$Tower" "came" "I", Cond.fieldLink RX4 192 "UpWhenDies$Telling" "size" "I", Cond.methodLink RX4 188 yX3_sumOfLiving, Cond.instanceMethod yX3_sumOfLiving]
def wsL_law_r30 : List Cond := [Cond.selects RX3 yX3_sumOfLiving yX3_sumOfLiving, Cond.code yX3_sumOfLiving cX3_sumOfLiving 4 (some .int), Cond.methodLink RL 117 yX5_count, Cond.instanceMethod yX5_count, Cond.selects RX5 yX5_count yX5_count, Cond.code yX5_count cX5_count 4 (some .int)]
def wsL_law : List Cond := (wsL_law_r1 ++ (wsL_law_r2 ++ (wsL_law_r3 ++ (wsL_law_r4 ++ (wsL_law_r5 ++ (wsL_law_r6 ++ (wsL_law_r7 ++ (wsL_law_r8 ++ (wsL_law_r9 ++ (wsL_law_r10 ++ (wsL_law_r11 ++ (wsL_law_r12 ++ (wsL_law_r13 ++ (wsL_law_r14 ++ (wsL_law_r15 ++ (wsL_law_r16 ++ (wsL_law_r17 ++ (wsL_law_r18 ++ (wsL_law_r19 ++ (wsL_law_r20 ++ (wsL_law_r21 ++ (wsL_law_r22 ++ (wsL_law_r23 ++ (wsL_law_r24 ++ (wsL_law_r25 ++ (wsL_law_r26 ++ (wsL_law_r27 ++ (wsL_law_r28 ++ (wsL_law_r29 ++ wsL_law_r30))))))))))))))))))))))))))))) ++ wsX40 ++ wsX50 ++ wsX30 ++ wsX20 ++ wsX10 ++ ([] : List Cond)
set_option maxRecDepth 20000 in
theorem wl_wsL_law_r1 : ∀ w ∈ wsL_law_r1, w ∈ lw_tbl := List.forall_mem_cons.mpr ⟨List.mem_of_getElem? (i := 52) (by decide +kernel), List.forall_mem_cons.mpr ⟨List.mem_of_getElem? (i := 53) (by decide +kernel), List.forall_mem_cons.mpr ⟨List.mem_of_getElem? (i := 44) (by decide +kernel), List.forall_mem_cons.mpr ⟨List.mem_of_getElem? (i := 525) (by decide +kernel), List.forall_mem_cons.mpr ⟨List.mem_of_getElem? (i := 526) (by decide +kernel), List.forall_mem_cons.mpr ⟨List.mem_of_getElem? (i := 48) (by decide +kernel), List.forall_mem_cons.mpr ⟨List.mem_of_getElem? (i := 54) (by decide +kernel), List.forall_mem_cons.mpr ⟨List.mem_of_getElem? (i := 55) (by decide +kernel), List.forall_mem_cons.mpr ⟨List.mem_of_getElem? (i := 56) (by decide +kernel), List.forall_mem_cons.mpr ⟨List.mem_of_getElem? (i := 57) (by decide +kernel), List.forall_mem_cons.mpr ⟨List.mem_of_getElem? (i := 58) (by decide +kernel), List.forall_mem_cons.mpr ⟨List.mem_of_getElem? (i := 59) (by decide +kernel), List.forall_mem_cons.mpr ⟨List.mem_of_getElem? (i := 60) (by decide +kernel), List.forall_mem_cons.mpr ⟨List.mem_of_getElem? (i := 61) (by decide +kernel), List.forall_mem_cons.mpr ⟨List.mem_of_getElem? (i := 45) (by decide +kernel), List.forall_mem_cons.mpr ⟨List.mem_of_getElem? (i := 132) (by decide +kernel), List.forall_mem_cons.mpr ⟨List.mem_of_getElem? (i := 133) (by decide +kernel), List.forall_mem_cons.mpr ⟨List.mem_of_getElem? (i := 134) (by decide +kernel), List.forall_mem_cons.mpr ⟨List.mem_of_getElem? (i := 99) (by decide +kernel), List.forall_mem_cons.mpr ⟨List.mem_of_getElem? (i := 100) (by decide +kernel), List.forall_mem_cons.mpr ⟨List.mem_of_getElem? (i := 46) (by decide +kernel), List.forall_mem_cons.mpr ⟨List.mem_of_getElem? (i := 136) (by decide +kernel), List.forall_mem_cons.mpr ⟨List.mem_of_getElem? (i := 113) (by decide +kernel), List.forall_mem_cons.mpr ⟨List.mem_of_getElem? (i := 114) (by decide +kernel), fun _ h => absurd h List.not_mem_nil⟩⟩⟩⟩⟩⟩⟩⟩⟩⟩⟩⟩⟩⟩⟩⟩⟩⟩⟩⟩⟩⟩⟩⟩
set_option maxRecDepth 20000 in
theorem wl_wsL_law_r2 : ∀ w ∈ wsL_law_r2, w ∈ lw_tbl := List.forall_mem_cons.mpr ⟨List.mem_of_getElem? (i := 47) (by decide +kernel), List.forall_mem_cons.mpr ⟨List.mem_of_getElem? (i := 137) (by decide +kernel), List.forall_mem_cons.mpr ⟨List.mem_of_getElem? (i := 98) (by decide +kernel), List.forall_mem_cons.mpr ⟨List.mem_of_getElem? (i := 138) (by decide +kernel), List.forall_mem_cons.mpr ⟨List.mem_of_getElem? (i := 140) (by decide +kernel), List.forall_mem_cons.mpr ⟨List.mem_of_getElem? (i := 63) (by decide +kernel), List.forall_mem_cons.mpr ⟨List.mem_of_getElem? (i := 64) (by decide +kernel), List.forall_mem_cons.mpr ⟨List.mem_of_getElem? (i := 65) (by decide +kernel), List.forall_mem_cons.mpr ⟨List.mem_of_getElem? (i := 66) (by decide +kernel), List.forall_mem_cons.mpr ⟨List.mem_of_getElem? (i := 68) (by decide +kernel), List.forall_mem_cons.mpr ⟨List.mem_of_getElem? (i := 70) (by decide +kernel), List.forall_mem_cons.mpr ⟨List.mem_of_getElem? (i := 73) (by decide +kernel), List.forall_mem_cons.mpr ⟨List.mem_of_getElem? (i := 75) (by decide +kernel), List.forall_mem_cons.mpr ⟨List.mem_of_getElem? (i := 102) (by decide +kernel), List.forall_mem_cons.mpr ⟨List.mem_of_getElem? (i := 103) (by decide +kernel), List.forall_mem_cons.mpr ⟨List.mem_of_getElem? (i := 104) (by decide +kernel), List.forall_mem_cons.mpr ⟨List.mem_of_getElem? (i := 105) (by decide +kernel), List.forall_mem_cons.mpr ⟨List.mem_of_getElem? (i := 116) (by decide +kernel), List.forall_mem_cons.mpr ⟨List.mem_of_getElem? (i := 117) (by decide +kernel), List.forall_mem_cons.mpr ⟨List.mem_of_getElem? (i := 118) (by decide +kernel), List.forall_mem_cons.mpr ⟨List.mem_of_getElem? (i := 131) (by decide +kernel), List.forall_mem_cons.mpr ⟨List.mem_of_getElem? (i := 119) (by decide +kernel), List.forall_mem_cons.mpr ⟨List.mem_of_getElem? (i := 527) (by decide +kernel), List.forall_mem_cons.mpr ⟨List.mem_of_getElem? (i := 528) (by decide +kernel), fun _ h => absurd h List.not_mem_nil⟩⟩⟩⟩⟩⟩⟩⟩⟩⟩⟩⟩⟩⟩⟩⟩⟩⟩⟩⟩⟩⟩⟩⟩
set_option maxRecDepth 20000 in
theorem wl_wsL_law_r3 : ∀ w ∈ wsL_law_r3, w ∈ lw_tbl := List.forall_mem_cons.mpr ⟨List.mem_of_getElem? (i := 529) (by decide +kernel), List.forall_mem_cons.mpr ⟨List.mem_of_getElem? (i := 530) (by decide +kernel), List.forall_mem_cons.mpr ⟨List.mem_of_getElem? (i := 531) (by decide +kernel), List.forall_mem_cons.mpr ⟨List.mem_of_getElem? (i := 532) (by decide +kernel), List.forall_mem_cons.mpr ⟨List.mem_of_getElem? (i := 533) (by decide +kernel), List.forall_mem_cons.mpr ⟨List.mem_of_getElem? (i := 534) (by decide +kernel), List.forall_mem_cons.mpr ⟨List.mem_of_getElem? (i := 535) (by decide +kernel), List.forall_mem_cons.mpr ⟨List.mem_of_getElem? (i := 536) (by decide +kernel), List.forall_mem_cons.mpr ⟨List.mem_of_getElem? (i := 539) (by decide +kernel), List.forall_mem_cons.mpr ⟨List.mem_of_getElem? (i := 540) (by decide +kernel), List.forall_mem_cons.mpr ⟨List.mem_of_getElem? (i := 541) (by decide +kernel), List.forall_mem_cons.mpr ⟨List.mem_of_getElem? (i := 542) (by decide +kernel), List.forall_mem_cons.mpr ⟨List.mem_of_getElem? (i := 543) (by decide +kernel), List.forall_mem_cons.mpr ⟨List.mem_of_getElem? (i := 544) (by decide +kernel), List.forall_mem_cons.mpr ⟨List.mem_of_getElem? (i := 548) (by decide +kernel), List.forall_mem_cons.mpr ⟨List.mem_of_getElem? (i := 552) (by decide +kernel), List.forall_mem_cons.mpr ⟨List.mem_of_getElem? (i := 553) (by decide +kernel), List.forall_mem_cons.mpr ⟨List.mem_of_getElem? (i := 160) (by decide +kernel), List.forall_mem_cons.mpr ⟨List.mem_of_getElem? (i := 161) (by decide +kernel), List.forall_mem_cons.mpr ⟨List.mem_of_getElem? (i := 162) (by decide +kernel), List.forall_mem_cons.mpr ⟨List.mem_of_getElem? (i := 163) (by decide +kernel), List.forall_mem_cons.mpr ⟨List.mem_of_getElem? (i := 164) (by decide +kernel), List.forall_mem_cons.mpr ⟨List.mem_of_getElem? (i := 166) (by decide +kernel), List.forall_mem_cons.mpr ⟨List.mem_of_getElem? (i := 0) (by decide +kernel), fun _ h => absurd h List.not_mem_nil⟩⟩⟩⟩⟩⟩⟩⟩⟩⟩⟩⟩⟩⟩⟩⟩⟩⟩⟩⟩⟩⟩⟩⟩
set_option maxRecDepth 20000 in
theorem wl_wsL_law_r4 : ∀ w ∈ wsL_law_r4, w ∈ lw_tbl := List.forall_mem_cons.mpr ⟨List.mem_of_getElem? (i := 167) (by decide +kernel), List.forall_mem_cons.mpr ⟨List.mem_of_getElem? (i := 168) (by decide +kernel), List.forall_mem_cons.mpr ⟨List.mem_of_getElem? (i := 169) (by decide +kernel), List.forall_mem_cons.mpr ⟨List.mem_of_getElem? (i := 170) (by decide +kernel), List.forall_mem_cons.mpr ⟨List.mem_of_getElem? (i := 171) (by decide +kernel), List.forall_mem_cons.mpr ⟨List.mem_of_getElem? (i := 106) (by decide +kernel), List.forall_mem_cons.mpr ⟨List.mem_of_getElem? (i := 172) (by decide +kernel), List.forall_mem_cons.mpr ⟨List.mem_of_getElem? (i := 173) (by decide +kernel), List.forall_mem_cons.mpr ⟨List.mem_of_getElem? (i := 174) (by decide +kernel), List.forall_mem_cons.mpr ⟨List.mem_of_getElem? (i := 175) (by decide +kernel), List.forall_mem_cons.mpr ⟨List.mem_of_getElem? (i := 604) (by decide +kernel), List.forall_mem_cons.mpr ⟨List.mem_of_getElem? (i := 605) (by decide +kernel), List.forall_mem_cons.mpr ⟨List.mem_of_getElem? (i := 606) (by decide +kernel), List.forall_mem_cons.mpr ⟨List.mem_of_getElem? (i := 607) (by decide +kernel), List.forall_mem_cons.mpr ⟨List.mem_of_getElem? (i := 545) (by decide +kernel), List.forall_mem_cons.mpr ⟨List.mem_of_getElem? (i := 608) (by decide +kernel), List.forall_mem_cons.mpr ⟨List.mem_of_getElem? (i := 609) (by decide +kernel), List.forall_mem_cons.mpr ⟨List.mem_of_getElem? (i := 610) (by decide +kernel), List.forall_mem_cons.mpr ⟨List.mem_of_getElem? (i := 611) (by decide +kernel), List.forall_mem_cons.mpr ⟨List.mem_of_getElem? (i := 613) (by decide +kernel), List.forall_mem_cons.mpr ⟨List.mem_of_getElem? (i := 16) (by decide +kernel), List.forall_mem_cons.mpr ⟨List.mem_of_getElem? (i := 614) (by decide +kernel), List.forall_mem_cons.mpr ⟨List.mem_of_getElem? (i := 176) (by decide +kernel), List.forall_mem_cons.mpr ⟨List.mem_of_getElem? (i := 177) (by decide +kernel), fun _ h => absurd h List.not_mem_nil⟩⟩⟩⟩⟩⟩⟩⟩⟩⟩⟩⟩⟩⟩⟩⟩⟩⟩⟩⟩⟩⟩⟩⟩
set_option maxRecDepth 20000 in
theorem wl_wsL_law_r5 : ∀ w ∈ wsL_law_r5, w ∈ lw_tbl := List.forall_mem_cons.mpr ⟨List.mem_of_getElem? (i := 178) (by decide +kernel), List.forall_mem_cons.mpr ⟨List.mem_of_getElem? (i := 179) (by decide +kernel), List.forall_mem_cons.mpr ⟨List.mem_of_getElem? (i := 180) (by decide +kernel), List.forall_mem_cons.mpr ⟨List.mem_of_getElem? (i := 182) (by decide +kernel), List.forall_mem_cons.mpr ⟨List.mem_of_getElem? (i := 1) (by decide +kernel), List.forall_mem_cons.mpr ⟨List.mem_of_getElem? (i := 183) (by decide +kernel), List.forall_mem_cons.mpr ⟨List.mem_of_getElem? (i := 184) (by decide +kernel), List.forall_mem_cons.mpr ⟨List.mem_of_getElem? (i := 185) (by decide +kernel), List.forall_mem_cons.mpr ⟨List.mem_of_getElem? (i := 186) (by decide +kernel), List.forall_mem_cons.mpr ⟨List.mem_of_getElem? (i := 187) (by decide +kernel), List.forall_mem_cons.mpr ⟨List.mem_of_getElem? (i := 188) (by decide +kernel), List.forall_mem_cons.mpr ⟨List.mem_of_getElem? (i := 190) (by decide +kernel), List.forall_mem_cons.mpr ⟨List.mem_of_getElem? (i := 2) (by decide +kernel), List.forall_mem_cons.mpr ⟨List.mem_of_getElem? (i := 191) (by decide +kernel), List.forall_mem_cons.mpr ⟨List.mem_of_getElem? (i := 192) (by decide +kernel), List.forall_mem_cons.mpr ⟨List.mem_of_getElem? (i := 193) (by decide +kernel), List.forall_mem_cons.mpr ⟨List.mem_of_getElem? (i := 194) (by decide +kernel), List.forall_mem_cons.mpr ⟨List.mem_of_getElem? (i := 195) (by decide +kernel), List.forall_mem_cons.mpr ⟨List.mem_of_getElem? (i := 196) (by decide +kernel), List.forall_mem_cons.mpr ⟨List.mem_of_getElem? (i := 197) (by decide +kernel), List.forall_mem_cons.mpr ⟨List.mem_of_getElem? (i := 198) (by decide +kernel), List.forall_mem_cons.mpr ⟨List.mem_of_getElem? (i := 199) (by decide +kernel), List.forall_mem_cons.mpr ⟨List.mem_of_getElem? (i := 49) (by decide +kernel), List.forall_mem_cons.mpr ⟨List.mem_of_getElem? (i := 200) (by decide +kernel), fun _ h => absurd h List.not_mem_nil⟩⟩⟩⟩⟩⟩⟩⟩⟩⟩⟩⟩⟩⟩⟩⟩⟩⟩⟩⟩⟩⟩⟩⟩
set_option maxRecDepth 20000 in
theorem wl_wsL_law_r6 : ∀ w ∈ wsL_law_r6, w ∈ lw_tbl := List.forall_mem_cons.mpr ⟨List.mem_of_getElem? (i := 201) (by decide +kernel), List.forall_mem_cons.mpr ⟨List.mem_of_getElem? (i := 202) (by decide +kernel), List.forall_mem_cons.mpr ⟨List.mem_of_getElem? (i := 203) (by decide +kernel), List.forall_mem_cons.mpr ⟨List.mem_of_getElem? (i := 204) (by decide +kernel), List.forall_mem_cons.mpr ⟨List.mem_of_getElem? (i := 205) (by decide +kernel), List.forall_mem_cons.mpr ⟨List.mem_of_getElem? (i := 206) (by decide +kernel), List.forall_mem_cons.mpr ⟨List.mem_of_getElem? (i := 207) (by decide +kernel), List.forall_mem_cons.mpr ⟨List.mem_of_getElem? (i := 208) (by decide +kernel), List.forall_mem_cons.mpr ⟨List.mem_of_getElem? (i := 209) (by decide +kernel), List.forall_mem_cons.mpr ⟨List.mem_of_getElem? (i := 210) (by decide +kernel), List.forall_mem_cons.mpr ⟨List.mem_of_getElem? (i := 211) (by decide +kernel), List.forall_mem_cons.mpr ⟨List.mem_of_getElem? (i := 212) (by decide +kernel), List.forall_mem_cons.mpr ⟨List.mem_of_getElem? (i := 213) (by decide +kernel), List.forall_mem_cons.mpr ⟨List.mem_of_getElem? (i := 78) (by decide +kernel), List.forall_mem_cons.mpr ⟨List.mem_of_getElem? (i := 80) (by decide +kernel), List.forall_mem_cons.mpr ⟨List.mem_of_getElem? (i := 214) (by decide +kernel), List.forall_mem_cons.mpr ⟨List.mem_of_getElem? (i := 215) (by decide +kernel), List.forall_mem_cons.mpr ⟨List.mem_of_getElem? (i := 216) (by decide +kernel), List.forall_mem_cons.mpr ⟨List.mem_of_getElem? (i := 217) (by decide +kernel), List.forall_mem_cons.mpr ⟨List.mem_of_getElem? (i := 218) (by decide +kernel), List.forall_mem_cons.mpr ⟨List.mem_of_getElem? (i := 220) (by decide +kernel), List.forall_mem_cons.mpr ⟨List.mem_of_getElem? (i := 3) (by decide +kernel), List.forall_mem_cons.mpr ⟨List.mem_of_getElem? (i := 221) (by decide +kernel), List.forall_mem_cons.mpr ⟨List.mem_of_getElem? (i := 222) (by decide +kernel), fun _ h => absurd h List.not_mem_nil⟩⟩⟩⟩⟩⟩⟩⟩⟩⟩⟩⟩⟩⟩⟩⟩⟩⟩⟩⟩⟩⟩⟩⟩
set_option maxRecDepth 20000 in
theorem wl_wsL_law_r7 : ∀ w ∈ wsL_law_r7, w ∈ lw_tbl := List.forall_mem_cons.mpr ⟨List.mem_of_getElem? (i := 224) (by decide +kernel), List.forall_mem_cons.mpr ⟨List.mem_of_getElem? (i := 4) (by decide +kernel), List.forall_mem_cons.mpr ⟨List.mem_of_getElem? (i := 225) (by decide +kernel), List.forall_mem_cons.mpr ⟨List.mem_of_getElem? (i := 226) (by decide +kernel), List.forall_mem_cons.mpr ⟨List.mem_of_getElem? (i := 227) (by decide +kernel), List.forall_mem_cons.mpr ⟨List.mem_of_getElem? (i := 228) (by decide +kernel), List.forall_mem_cons.mpr ⟨List.mem_of_getElem? (i := 229) (by decide +kernel), List.forall_mem_cons.mpr ⟨List.mem_of_getElem? (i := 230) (by decide +kernel), List.forall_mem_cons.mpr ⟨List.mem_of_getElem? (i := 231) (by decide +kernel), List.forall_mem_cons.mpr ⟨List.mem_of_getElem? (i := 232) (by decide +kernel), List.forall_mem_cons.mpr ⟨List.mem_of_getElem? (i := 233) (by decide +kernel), List.forall_mem_cons.mpr ⟨List.mem_of_getElem? (i := 234) (by decide +kernel), List.forall_mem_cons.mpr ⟨List.mem_of_getElem? (i := 235) (by decide +kernel), List.forall_mem_cons.mpr ⟨List.mem_of_getElem? (i := 236) (by decide +kernel), List.forall_mem_cons.mpr ⟨List.mem_of_getElem? (i := 237) (by decide +kernel), List.forall_mem_cons.mpr ⟨List.mem_of_getElem? (i := 238) (by decide +kernel), List.forall_mem_cons.mpr ⟨List.mem_of_getElem? (i := 50) (by decide +kernel), List.forall_mem_cons.mpr ⟨List.mem_of_getElem? (i := 239) (by decide +kernel), List.forall_mem_cons.mpr ⟨List.mem_of_getElem? (i := 240) (by decide +kernel), List.forall_mem_cons.mpr ⟨List.mem_of_getElem? (i := 241) (by decide +kernel), List.forall_mem_cons.mpr ⟨List.mem_of_getElem? (i := 242) (by decide +kernel), List.forall_mem_cons.mpr ⟨List.mem_of_getElem? (i := 243) (by decide +kernel), List.forall_mem_cons.mpr ⟨List.mem_of_getElem? (i := 244) (by decide +kernel), List.forall_mem_cons.mpr ⟨List.mem_of_getElem? (i := 245) (by decide +kernel), fun _ h => absurd h List.not_mem_nil⟩⟩⟩⟩⟩⟩⟩⟩⟩⟩⟩⟩⟩⟩⟩⟩⟩⟩⟩⟩⟩⟩⟩⟩
set_option maxRecDepth 20000 in
theorem wl_wsL_law_r8 : ∀ w ∈ wsL_law_r8, w ∈ lw_tbl := List.forall_mem_cons.mpr ⟨List.mem_of_getElem? (i := 246) (by decide +kernel), List.forall_mem_cons.mpr ⟨List.mem_of_getElem? (i := 247) (by decide +kernel), List.forall_mem_cons.mpr ⟨List.mem_of_getElem? (i := 248) (by decide +kernel), List.forall_mem_cons.mpr ⟨List.mem_of_getElem? (i := 249) (by decide +kernel), List.forall_mem_cons.mpr ⟨List.mem_of_getElem? (i := 250) (by decide +kernel), List.forall_mem_cons.mpr ⟨List.mem_of_getElem? (i := 251) (by decide +kernel), List.forall_mem_cons.mpr ⟨List.mem_of_getElem? (i := 252) (by decide +kernel), List.forall_mem_cons.mpr ⟨List.mem_of_getElem? (i := 254) (by decide +kernel), List.forall_mem_cons.mpr ⟨List.mem_of_getElem? (i := 5) (by decide +kernel), List.forall_mem_cons.mpr ⟨List.mem_of_getElem? (i := 255) (by decide +kernel), List.forall_mem_cons.mpr ⟨List.mem_of_getElem? (i := 77) (by decide +kernel), List.forall_mem_cons.mpr ⟨List.mem_of_getElem? (i := 256) (by decide +kernel), List.forall_mem_cons.mpr ⟨List.mem_of_getElem? (i := 257) (by decide +kernel), List.forall_mem_cons.mpr ⟨List.mem_of_getElem? (i := 259) (by decide +kernel), List.forall_mem_cons.mpr ⟨List.mem_of_getElem? (i := 6) (by decide +kernel), List.forall_mem_cons.mpr ⟨List.mem_of_getElem? (i := 260) (by decide +kernel), List.forall_mem_cons.mpr ⟨List.mem_of_getElem? (i := 82) (by decide +kernel), List.forall_mem_cons.mpr ⟨List.mem_of_getElem? (i := 261) (by decide +kernel), List.forall_mem_cons.mpr ⟨List.mem_of_getElem? (i := 262) (by decide +kernel), List.forall_mem_cons.mpr ⟨List.mem_of_getElem? (i := 263) (by decide +kernel), List.forall_mem_cons.mpr ⟨List.mem_of_getElem? (i := 264) (by decide +kernel), List.forall_mem_cons.mpr ⟨List.mem_of_getElem? (i := 265) (by decide +kernel), List.forall_mem_cons.mpr ⟨List.mem_of_getElem? (i := 266) (by decide +kernel), List.forall_mem_cons.mpr ⟨List.mem_of_getElem? (i := 267) (by decide +kernel), fun _ h => absurd h List.not_mem_nil⟩⟩⟩⟩⟩⟩⟩⟩⟩⟩⟩⟩⟩⟩⟩⟩⟩⟩⟩⟩⟩⟩⟩⟩
set_option maxRecDepth 20000 in
theorem wl_wsL_law_r9 : ∀ w ∈ wsL_law_r9, w ∈ lw_tbl := List.forall_mem_cons.mpr ⟨List.mem_of_getElem? (i := 268) (by decide +kernel), List.forall_mem_cons.mpr ⟨List.mem_of_getElem? (i := 269) (by decide +kernel), List.forall_mem_cons.mpr ⟨List.mem_of_getElem? (i := 270) (by decide +kernel), List.forall_mem_cons.mpr ⟨List.mem_of_getElem? (i := 271) (by decide +kernel), List.forall_mem_cons.mpr ⟨List.mem_of_getElem? (i := 272) (by decide +kernel), List.forall_mem_cons.mpr ⟨List.mem_of_getElem? (i := 273) (by decide +kernel), List.forall_mem_cons.mpr ⟨List.mem_of_getElem? (i := 274) (by decide +kernel), List.forall_mem_cons.mpr ⟨List.mem_of_getElem? (i := 275) (by decide +kernel), List.forall_mem_cons.mpr ⟨List.mem_of_getElem? (i := 276) (by decide +kernel), List.forall_mem_cons.mpr ⟨List.mem_of_getElem? (i := 277) (by decide +kernel), List.forall_mem_cons.mpr ⟨List.mem_of_getElem? (i := 278) (by decide +kernel), List.forall_mem_cons.mpr ⟨List.mem_of_getElem? (i := 279) (by decide +kernel), List.forall_mem_cons.mpr ⟨List.mem_of_getElem? (i := 280) (by decide +kernel), List.forall_mem_cons.mpr ⟨List.mem_of_getElem? (i := 281) (by decide +kernel), List.forall_mem_cons.mpr ⟨List.mem_of_getElem? (i := 282) (by decide +kernel), List.forall_mem_cons.mpr ⟨List.mem_of_getElem? (i := 283) (by decide +kernel), List.forall_mem_cons.mpr ⟨List.mem_of_getElem? (i := 284) (by decide +kernel), List.forall_mem_cons.mpr ⟨List.mem_of_getElem? (i := 285) (by decide +kernel), List.forall_mem_cons.mpr ⟨List.mem_of_getElem? (i := 286) (by decide +kernel), List.forall_mem_cons.mpr ⟨List.mem_of_getElem? (i := 51) (by decide +kernel), List.forall_mem_cons.mpr ⟨List.mem_of_getElem? (i := 287) (by decide +kernel), List.forall_mem_cons.mpr ⟨List.mem_of_getElem? (i := 288) (by decide +kernel), List.forall_mem_cons.mpr ⟨List.mem_of_getElem? (i := 289) (by decide +kernel), List.forall_mem_cons.mpr ⟨List.mem_of_getElem? (i := 290) (by decide +kernel), fun _ h => absurd h List.not_mem_nil⟩⟩⟩⟩⟩⟩⟩⟩⟩⟩⟩⟩⟩⟩⟩⟩⟩⟩⟩⟩⟩⟩⟩⟩
set_option maxRecDepth 20000 in
theorem wl_wsL_law_r10 : ∀ w ∈ wsL_law_r10, w ∈ lw_tbl := List.forall_mem_cons.mpr ⟨List.mem_of_getElem? (i := 291) (by decide +kernel), List.forall_mem_cons.mpr ⟨List.mem_of_getElem? (i := 293) (by decide +kernel), List.forall_mem_cons.mpr ⟨List.mem_of_getElem? (i := 7) (by decide +kernel), List.forall_mem_cons.mpr ⟨List.mem_of_getElem? (i := 294) (by decide +kernel), List.forall_mem_cons.mpr ⟨List.mem_of_getElem? (i := 295) (by decide +kernel), List.forall_mem_cons.mpr ⟨List.mem_of_getElem? (i := 296) (by decide +kernel), List.forall_mem_cons.mpr ⟨List.mem_of_getElem? (i := 297) (by decide +kernel), List.forall_mem_cons.mpr ⟨List.mem_of_getElem? (i := 298) (by decide +kernel), List.forall_mem_cons.mpr ⟨List.mem_of_getElem? (i := 299) (by decide +kernel), List.forall_mem_cons.mpr ⟨List.mem_of_getElem? (i := 300) (by decide +kernel), List.forall_mem_cons.mpr ⟨List.mem_of_getElem? (i := 301) (by decide +kernel), List.forall_mem_cons.mpr ⟨List.mem_of_getElem? (i := 302) (by decide +kernel), List.forall_mem_cons.mpr ⟨List.mem_of_getElem? (i := 303) (by decide +kernel), List.forall_mem_cons.mpr ⟨List.mem_of_getElem? (i := 304) (by decide +kernel), List.forall_mem_cons.mpr ⟨List.mem_of_getElem? (i := 305) (by decide +kernel), List.forall_mem_cons.mpr ⟨List.mem_of_getElem? (i := 615) (by decide +kernel), List.forall_mem_cons.mpr ⟨List.mem_of_getElem? (i := 616) (by decide +kernel), List.forall_mem_cons.mpr ⟨List.mem_of_getElem? (i := 617) (by decide +kernel), List.forall_mem_cons.mpr ⟨List.mem_of_getElem? (i := 618) (by decide +kernel), List.forall_mem_cons.mpr ⟨List.mem_of_getElem? (i := 546) (by decide +kernel), List.forall_mem_cons.mpr ⟨List.mem_of_getElem? (i := 547) (by decide +kernel), List.forall_mem_cons.mpr ⟨List.mem_of_getElem? (i := 619) (by decide +kernel), List.forall_mem_cons.mpr ⟨List.mem_of_getElem? (i := 621) (by decide +kernel), List.forall_mem_cons.mpr ⟨List.mem_of_getElem? (i := 17) (by decide +kernel), fun _ h => absurd h List.not_mem_nil⟩⟩⟩⟩⟩⟩⟩⟩⟩⟩⟩⟩⟩⟩⟩⟩⟩⟩⟩⟩⟩⟩⟩⟩
set_option maxRecDepth 20000 in
theorem wl_wsL_law_r11 : ∀ w ∈ wsL_law_r11, w ∈ lw_tbl := List.forall_mem_cons.mpr ⟨List.mem_of_getElem? (i := 622) (by decide +kernel), List.forall_mem_cons.mpr ⟨List.mem_of_getElem? (i := 623) (by decide +kernel), List.forall_mem_cons.mpr ⟨List.mem_of_getElem? (i := 625) (by decide +kernel), List.forall_mem_cons.mpr ⟨List.mem_of_getElem? (i := 18) (by decide +kernel), List.forall_mem_cons.mpr ⟨List.mem_of_getElem? (i := 626) (by decide +kernel), List.forall_mem_cons.mpr ⟨List.mem_of_getElem? (i := 627) (by decide +kernel), List.forall_mem_cons.mpr ⟨List.mem_of_getElem? (i := 629) (by decide +kernel), List.forall_mem_cons.mpr ⟨List.mem_of_getElem? (i := 19) (by decide +kernel), List.forall_mem_cons.mpr ⟨List.mem_of_getElem? (i := 630) (by decide +kernel), List.forall_mem_cons.mpr ⟨List.mem_of_getElem? (i := 631) (by decide +kernel), List.forall_mem_cons.mpr ⟨List.mem_of_getElem? (i := 632) (by decide +kernel), List.forall_mem_cons.mpr ⟨List.mem_of_getElem? (i := 633) (by decide +kernel), List.forall_mem_cons.mpr ⟨List.mem_of_getElem? (i := 634) (by decide +kernel), List.forall_mem_cons.mpr ⟨List.mem_of_getElem? (i := 636) (by decide +kernel), List.forall_mem_cons.mpr ⟨List.mem_of_getElem? (i := 20) (by decide +kernel), List.forall_mem_cons.mpr ⟨List.mem_of_getElem? (i := 637) (by decide +kernel), List.forall_mem_cons.mpr ⟨List.mem_of_getElem? (i := 638) (by decide +kernel), List.forall_mem_cons.mpr ⟨List.mem_of_getElem? (i := 640) (by decide +kernel), List.forall_mem_cons.mpr ⟨List.mem_of_getElem? (i := 21) (by decide +kernel), List.forall_mem_cons.mpr ⟨List.mem_of_getElem? (i := 641) (by decide +kernel), List.forall_mem_cons.mpr ⟨List.mem_of_getElem? (i := 642) (by decide +kernel), List.forall_mem_cons.mpr ⟨List.mem_of_getElem? (i := 643) (by decide +kernel), List.forall_mem_cons.mpr ⟨List.mem_of_getElem? (i := 644) (by decide +kernel), List.forall_mem_cons.mpr ⟨List.mem_of_getElem? (i := 645) (by decide +kernel), fun _ h => absurd h List.not_mem_nil⟩⟩⟩⟩⟩⟩⟩⟩⟩⟩⟩⟩⟩⟩⟩⟩⟩⟩⟩⟩⟩⟩⟩⟩
set_option maxRecDepth 20000 in
theorem wl_wsL_law_r12 : ∀ w ∈ wsL_law_r12, w ∈ lw_tbl := List.forall_mem_cons.mpr ⟨List.mem_of_getElem? (i := 647) (by decide +kernel), List.forall_mem_cons.mpr ⟨List.mem_of_getElem? (i := 22) (by decide +kernel), List.forall_mem_cons.mpr ⟨List.mem_of_getElem? (i := 648) (by decide +kernel), List.forall_mem_cons.mpr ⟨List.mem_of_getElem? (i := 649) (by decide +kernel), List.forall_mem_cons.mpr ⟨List.mem_of_getElem? (i := 651) (by decide +kernel), List.forall_mem_cons.mpr ⟨List.mem_of_getElem? (i := 23) (by decide +kernel), List.forall_mem_cons.mpr ⟨List.mem_of_getElem? (i := 652) (by decide +kernel), List.forall_mem_cons.mpr ⟨List.mem_of_getElem? (i := 551) (by decide +kernel), List.forall_mem_cons.mpr ⟨List.mem_of_getElem? (i := 550) (by decide +kernel), List.forall_mem_cons.mpr ⟨List.mem_of_getElem? (i := 537) (by decide +kernel), List.forall_mem_cons.mpr ⟨List.mem_of_getElem? (i := 538) (by decide +kernel), List.forall_mem_cons.mpr ⟨List.mem_of_getElem? (i := 653) (by decide +kernel), List.forall_mem_cons.mpr ⟨List.mem_of_getElem? (i := 655) (by decide +kernel), List.forall_mem_cons.mpr ⟨List.mem_of_getElem? (i := 24) (by decide +kernel), List.forall_mem_cons.mpr ⟨List.mem_of_getElem? (i := 656) (by decide +kernel), List.forall_mem_cons.mpr ⟨List.mem_of_getElem? (i := 657) (by decide +kernel), List.forall_mem_cons.mpr ⟨List.mem_of_getElem? (i := 659) (by decide +kernel), List.forall_mem_cons.mpr ⟨List.mem_of_getElem? (i := 25) (by decide +kernel), List.forall_mem_cons.mpr ⟨List.mem_of_getElem? (i := 660) (by decide +kernel), List.forall_mem_cons.mpr ⟨List.mem_of_getElem? (i := 661) (by decide +kernel), List.forall_mem_cons.mpr ⟨List.mem_of_getElem? (i := 663) (by decide +kernel), List.forall_mem_cons.mpr ⟨List.mem_of_getElem? (i := 26) (by decide +kernel), List.forall_mem_cons.mpr ⟨List.mem_of_getElem? (i := 664) (by decide +kernel), List.forall_mem_cons.mpr ⟨List.mem_of_getElem? (i := 665) (by decide +kernel), fun _ h => absurd h List.not_mem_nil⟩⟩⟩⟩⟩⟩⟩⟩⟩⟩⟩⟩⟩⟩⟩⟩⟩⟩⟩⟩⟩⟩⟩⟩
set_option maxRecDepth 20000 in
theorem wl_wsL_law_r13 : ∀ w ∈ wsL_law_r13, w ∈ lw_tbl := List.forall_mem_cons.mpr ⟨List.mem_of_getElem? (i := 667) (by decide +kernel), List.forall_mem_cons.mpr ⟨List.mem_of_getElem? (i := 27) (by decide +kernel), List.forall_mem_cons.mpr ⟨List.mem_of_getElem? (i := 668) (by decide +kernel), List.forall_mem_cons.mpr ⟨List.mem_of_getElem? (i := 669) (by decide +kernel), List.forall_mem_cons.mpr ⟨List.mem_of_getElem? (i := 670) (by decide +kernel), List.forall_mem_cons.mpr ⟨List.mem_of_getElem? (i := 671) (by decide +kernel), List.forall_mem_cons.mpr ⟨List.mem_of_getElem? (i := 672) (by decide +kernel), List.forall_mem_cons.mpr ⟨List.mem_of_getElem? (i := 674) (by decide +kernel), List.forall_mem_cons.mpr ⟨List.mem_of_getElem? (i := 28) (by decide +kernel), List.forall_mem_cons.mpr ⟨List.mem_of_getElem? (i := 675) (by decide +kernel), List.forall_mem_cons.mpr ⟨List.mem_of_getElem? (i := 676) (by decide +kernel), List.forall_mem_cons.mpr ⟨List.mem_of_getElem? (i := 678) (by decide +kernel), List.forall_mem_cons.mpr ⟨List.mem_of_getElem? (i := 29) (by decide +kernel), List.forall_mem_cons.mpr ⟨List.mem_of_getElem? (i := 679) (by decide +kernel), List.forall_mem_cons.mpr ⟨List.mem_of_getElem? (i := 680) (by decide +kernel), List.forall_mem_cons.mpr ⟨List.mem_of_getElem? (i := 682) (by decide +kernel), List.forall_mem_cons.mpr ⟨List.mem_of_getElem? (i := 30) (by decide +kernel), List.forall_mem_cons.mpr ⟨List.mem_of_getElem? (i := 683) (by decide +kernel), List.forall_mem_cons.mpr ⟨List.mem_of_getElem? (i := 684) (by decide +kernel), List.forall_mem_cons.mpr ⟨List.mem_of_getElem? (i := 686) (by decide +kernel), List.forall_mem_cons.mpr ⟨List.mem_of_getElem? (i := 31) (by decide +kernel), List.forall_mem_cons.mpr ⟨List.mem_of_getElem? (i := 687) (by decide +kernel), List.forall_mem_cons.mpr ⟨List.mem_of_getElem? (i := 688) (by decide +kernel), List.forall_mem_cons.mpr ⟨List.mem_of_getElem? (i := 690) (by decide +kernel), fun _ h => absurd h List.not_mem_nil⟩⟩⟩⟩⟩⟩⟩⟩⟩⟩⟩⟩⟩⟩⟩⟩⟩⟩⟩⟩⟩⟩⟩⟩
set_option maxRecDepth 20000 in
theorem wl_wsL_law_r14 : ∀ w ∈ wsL_law_r14, w ∈ lw_tbl := List.forall_mem_cons.mpr ⟨List.mem_of_getElem? (i := 32) (by decide +kernel), List.forall_mem_cons.mpr ⟨List.mem_of_getElem? (i := 691) (by decide +kernel), List.forall_mem_cons.mpr ⟨List.mem_of_getElem? (i := 692) (by decide +kernel), List.forall_mem_cons.mpr ⟨List.mem_of_getElem? (i := 693) (by decide +kernel), List.forall_mem_cons.mpr ⟨List.mem_of_getElem? (i := 694) (by decide +kernel), List.forall_mem_cons.mpr ⟨List.mem_of_getElem? (i := 306) (by decide +kernel), List.forall_mem_cons.mpr ⟨List.mem_of_getElem? (i := 307) (by decide +kernel), List.forall_mem_cons.mpr ⟨List.mem_of_getElem? (i := 308) (by decide +kernel), List.forall_mem_cons.mpr ⟨List.mem_of_getElem? (i := 309) (by decide +kernel), List.forall_mem_cons.mpr ⟨List.mem_of_getElem? (i := 310) (by decide +kernel), List.forall_mem_cons.mpr ⟨List.mem_of_getElem? (i := 311) (by decide +kernel), List.forall_mem_cons.mpr ⟨List.mem_of_getElem? (i := 312) (by decide +kernel), List.forall_mem_cons.mpr ⟨List.mem_of_getElem? (i := 313) (by decide +kernel), List.forall_mem_cons.mpr ⟨List.mem_of_getElem? (i := 314) (by decide +kernel), List.forall_mem_cons.mpr ⟨List.mem_of_getElem? (i := 315) (by decide +kernel), List.forall_mem_cons.mpr ⟨List.mem_of_getElem? (i := 703) (by decide +kernel), List.forall_mem_cons.mpr ⟨List.mem_of_getElem? (i := 704) (by decide +kernel), List.forall_mem_cons.mpr ⟨List.mem_of_getElem? (i := 705) (by decide +kernel), List.forall_mem_cons.mpr ⟨List.mem_of_getElem? (i := 706) (by decide +kernel), List.forall_mem_cons.mpr ⟨List.mem_of_getElem? (i := 316) (by decide +kernel), List.forall_mem_cons.mpr ⟨List.mem_of_getElem? (i := 317) (by decide +kernel), List.forall_mem_cons.mpr ⟨List.mem_of_getElem? (i := 318) (by decide +kernel), List.forall_mem_cons.mpr ⟨List.mem_of_getElem? (i := 319) (by decide +kernel), List.forall_mem_cons.mpr ⟨List.mem_of_getElem? (i := 67) (by decide +kernel), fun _ h => absurd h List.not_mem_nil⟩⟩⟩⟩⟩⟩⟩⟩⟩⟩⟩⟩⟩⟩⟩⟩⟩⟩⟩⟩⟩⟩⟩⟩
set_option maxRecDepth 20000 in
theorem wl_wsL_law_r15 : ∀ w ∈ wsL_law_r15, w ∈ lw_tbl := List.forall_mem_cons.mpr ⟨List.mem_of_getElem? (i := 69) (by decide +kernel), List.forall_mem_cons.mpr ⟨List.mem_of_getElem? (i := 72) (by decide +kernel), List.forall_mem_cons.mpr ⟨List.mem_of_getElem? (i := 74) (by decide +kernel), List.forall_mem_cons.mpr ⟨List.mem_of_getElem? (i := 320) (by decide +kernel), List.forall_mem_cons.mpr ⟨List.mem_of_getElem? (i := 321) (by decide +kernel), List.forall_mem_cons.mpr ⟨List.mem_of_getElem? (i := 322) (by decide +kernel), List.forall_mem_cons.mpr ⟨List.mem_of_getElem? (i := 323) (by decide +kernel), List.forall_mem_cons.mpr ⟨List.mem_of_getElem? (i := 324) (by decide +kernel), List.forall_mem_cons.mpr ⟨List.mem_of_getElem? (i := 325) (by decide +kernel), List.forall_mem_cons.mpr ⟨List.mem_of_getElem? (i := 326) (by decide +kernel), List.forall_mem_cons.mpr ⟨List.mem_of_getElem? (i := 327) (by decide +kernel), List.forall_mem_cons.mpr ⟨List.mem_of_getElem? (i := 328) (by decide +kernel), List.forall_mem_cons.mpr ⟨List.mem_of_getElem? (i := 329) (by decide +kernel), List.forall_mem_cons.mpr ⟨List.mem_of_getElem? (i := 330) (by decide +kernel), List.forall_mem_cons.mpr ⟨List.mem_of_getElem? (i := 331) (by decide +kernel), List.forall_mem_cons.mpr ⟨List.mem_of_getElem? (i := 332) (by decide +kernel), List.forall_mem_cons.mpr ⟨List.mem_of_getElem? (i := 333) (by decide +kernel), List.forall_mem_cons.mpr ⟨List.mem_of_getElem? (i := 334) (by decide +kernel), List.forall_mem_cons.mpr ⟨List.mem_of_getElem? (i := 335) (by decide +kernel), List.forall_mem_cons.mpr ⟨List.mem_of_getElem? (i := 336) (by decide +kernel), List.forall_mem_cons.mpr ⟨List.mem_of_getElem? (i := 337) (by decide +kernel), List.forall_mem_cons.mpr ⟨List.mem_of_getElem? (i := 338) (by decide +kernel), List.forall_mem_cons.mpr ⟨List.mem_of_getElem? (i := 339) (by decide +kernel), List.forall_mem_cons.mpr ⟨List.mem_of_getElem? (i := 340) (by decide +kernel), fun _ h => absurd h List.not_mem_nil⟩⟩⟩⟩⟩⟩⟩⟩⟩⟩⟩⟩⟩⟩⟩⟩⟩⟩⟩⟩⟩⟩⟩⟩
set_option maxRecDepth 20000 in
theorem wl_wsL_law_r16 : ∀ w ∈ wsL_law_r16, w ∈ lw_tbl := List.forall_mem_cons.mpr ⟨List.mem_of_getElem? (i := 341) (by decide +kernel), List.forall_mem_cons.mpr ⟨List.mem_of_getElem? (i := 342) (by decide +kernel), List.forall_mem_cons.mpr ⟨List.mem_of_getElem? (i := 343) (by decide +kernel), List.forall_mem_cons.mpr ⟨List.mem_of_getElem? (i := 344) (by decide +kernel), List.forall_mem_cons.mpr ⟨List.mem_of_getElem? (i := 345) (by decide +kernel), List.forall_mem_cons.mpr ⟨List.mem_of_getElem? (i := 707) (by decide +kernel), List.forall_mem_cons.mpr ⟨List.mem_of_getElem? (i := 708) (by decide +kernel), List.forall_mem_cons.mpr ⟨List.mem_of_getElem? (i := 709) (by decide +kernel), List.forall_mem_cons.mpr ⟨List.mem_of_getElem? (i := 710) (by decide +kernel), List.forall_mem_cons.mpr ⟨List.mem_of_getElem? (i := 711) (by decide +kernel), List.forall_mem_cons.mpr ⟨List.mem_of_getElem? (i := 713) (by decide +kernel), List.forall_mem_cons.mpr ⟨List.mem_of_getElem? (i := 33) (by decide +kernel), List.forall_mem_cons.mpr ⟨List.mem_of_getElem? (i := 714) (by decide +kernel), List.forall_mem_cons.mpr ⟨List.mem_of_getElem? (i := 715) (by decide +kernel), List.forall_mem_cons.mpr ⟨List.mem_of_getElem? (i := 716) (by decide +kernel), List.forall_mem_cons.mpr ⟨List.mem_of_getElem? (i := 717) (by decide +kernel), List.forall_mem_cons.mpr ⟨List.mem_of_getElem? (i := 346) (by decide +kernel), List.forall_mem_cons.mpr ⟨List.mem_of_getElem? (i := 347) (by decide +kernel), List.forall_mem_cons.mpr ⟨List.mem_of_getElem? (i := 348) (by decide +kernel), List.forall_mem_cons.mpr ⟨List.mem_of_getElem? (i := 349) (by decide +kernel), List.forall_mem_cons.mpr ⟨List.mem_of_getElem? (i := 76) (by decide +kernel), List.forall_mem_cons.mpr ⟨List.mem_of_getElem? (i := 350) (by decide +kernel), List.forall_mem_cons.mpr ⟨List.mem_of_getElem? (i := 351) (by decide +kernel), List.forall_mem_cons.mpr ⟨List.mem_of_getElem? (i := 352) (by decide +kernel), fun _ h => absurd h List.not_mem_nil⟩⟩⟩⟩⟩⟩⟩⟩⟩⟩⟩⟩⟩⟩⟩⟩⟩⟩⟩⟩⟩⟩⟩⟩
set_option maxRecDepth 20000 in
theorem wl_wsL_law_r17 : ∀ w ∈ wsL_law_r17, w ∈ lw_tbl := List.forall_mem_cons.mpr ⟨List.mem_of_getElem? (i := 718) (by decide +kernel), List.forall_mem_cons.mpr ⟨List.mem_of_getElem? (i := 719) (by decide +kernel), List.forall_mem_cons.mpr ⟨List.mem_of_getElem? (i := 720) (by decide +kernel), List.forall_mem_cons.mpr ⟨List.mem_of_getElem? (i := 721) (by decide +kernel), List.forall_mem_cons.mpr ⟨List.mem_of_getElem? (i := 722) (by decide +kernel), List.forall_mem_cons.mpr ⟨List.mem_of_getElem? (i := 723) (by decide +kernel), List.forall_mem_cons.mpr ⟨List.mem_of_getElem? (i := 724) (by decide +kernel), List.forall_mem_cons.mpr ⟨List.mem_of_getElem? (i := 353) (by decide +kernel), List.forall_mem_cons.mpr ⟨List.mem_of_getElem? (i := 354) (by decide +kernel), List.forall_mem_cons.mpr ⟨List.mem_of_getElem? (i := 355) (by decide +kernel), List.forall_mem_cons.mpr ⟨List.mem_of_getElem? (i := 356) (by decide +kernel), List.forall_mem_cons.mpr ⟨List.mem_of_getElem? (i := 81) (by decide +kernel), List.forall_mem_cons.mpr ⟨List.mem_of_getElem? (i := 357) (by decide +kernel), List.forall_mem_cons.mpr ⟨List.mem_of_getElem? (i := 358) (by decide +kernel), List.forall_mem_cons.mpr ⟨List.mem_of_getElem? (i := 359) (by decide +kernel), List.forall_mem_cons.mpr ⟨List.mem_of_getElem? (i := 360) (by decide +kernel), List.forall_mem_cons.mpr ⟨List.mem_of_getElem? (i := 361) (by decide +kernel), List.forall_mem_cons.mpr ⟨List.mem_of_getElem? (i := 725) (by decide +kernel), List.forall_mem_cons.mpr ⟨List.mem_of_getElem? (i := 726) (by decide +kernel), List.forall_mem_cons.mpr ⟨List.mem_of_getElem? (i := 727) (by decide +kernel), List.forall_mem_cons.mpr ⟨List.mem_of_getElem? (i := 728) (by decide +kernel), List.forall_mem_cons.mpr ⟨List.mem_of_getElem? (i := 729) (by decide +kernel), List.forall_mem_cons.mpr ⟨List.mem_of_getElem? (i := 731) (by decide +kernel), List.forall_mem_cons.mpr ⟨List.mem_of_getElem? (i := 34) (by decide +kernel), fun _ h => absurd h List.not_mem_nil⟩⟩⟩⟩⟩⟩⟩⟩⟩⟩⟩⟩⟩⟩⟩⟩⟩⟩⟩⟩⟩⟩⟩⟩
set_option maxRecDepth 20000 in
theorem wl_wsL_law_r18 : ∀ w ∈ wsL_law_r18, w ∈ lw_tbl := List.forall_mem_cons.mpr ⟨List.mem_of_getElem? (i := 732) (by decide +kernel), List.forall_mem_cons.mpr ⟨List.mem_of_getElem? (i := 733) (by decide +kernel), List.forall_mem_cons.mpr ⟨List.mem_of_getElem? (i := 735) (by decide +kernel), List.forall_mem_cons.mpr ⟨List.mem_of_getElem? (i := 35) (by decide +kernel), List.forall_mem_cons.mpr ⟨List.mem_of_getElem? (i := 736) (by decide +kernel), List.forall_mem_cons.mpr ⟨List.mem_of_getElem? (i := 362) (by decide +kernel), List.forall_mem_cons.mpr ⟨List.mem_of_getElem? (i := 363) (by decide +kernel), List.forall_mem_cons.mpr ⟨List.mem_of_getElem? (i := 364) (by decide +kernel), List.forall_mem_cons.mpr ⟨List.mem_of_getElem? (i := 365) (by decide +kernel), List.forall_mem_cons.mpr ⟨List.mem_of_getElem? (i := 366) (by decide +kernel), List.forall_mem_cons.mpr ⟨List.mem_of_getElem? (i := 737) (by decide +kernel), List.forall_mem_cons.mpr ⟨List.mem_of_getElem? (i := 738) (by decide +kernel), List.forall_mem_cons.mpr ⟨List.mem_of_getElem? (i := 739) (by decide +kernel), List.forall_mem_cons.mpr ⟨List.mem_of_getElem? (i := 740) (by decide +kernel), List.forall_mem_cons.mpr ⟨List.mem_of_getElem? (i := 367) (by decide +kernel), List.forall_mem_cons.mpr ⟨List.mem_of_getElem? (i := 368) (by decide +kernel), List.forall_mem_cons.mpr ⟨List.mem_of_getElem? (i := 369) (by decide +kernel), List.forall_mem_cons.mpr ⟨List.mem_of_getElem? (i := 370) (by decide +kernel), List.forall_mem_cons.mpr ⟨List.mem_of_getElem? (i := 121) (by decide +kernel), List.forall_mem_cons.mpr ⟨List.mem_of_getElem? (i := 123) (by decide +kernel), List.forall_mem_cons.mpr ⟨List.mem_of_getElem? (i := 371) (by decide +kernel), List.forall_mem_cons.mpr ⟨List.mem_of_getElem? (i := 373) (by decide +kernel), List.forall_mem_cons.mpr ⟨List.mem_of_getElem? (i := 8) (by decide +kernel), List.forall_mem_cons.mpr ⟨List.mem_of_getElem? (i := 374) (by decide +kernel), fun _ h => absurd h List.not_mem_nil⟩⟩⟩⟩⟩⟩⟩⟩⟩⟩⟩⟩⟩⟩⟩⟩⟩⟩⟩⟩⟩⟩⟩⟩
set_option maxRecDepth 20000 in
theorem wl_wsL_law_r19 : ∀ w ∈ wsL_law_r19, w ∈ lw_tbl := List.forall_mem_cons.mpr ⟨List.mem_of_getElem? (i := 375) (by decide +kernel), List.forall_mem_cons.mpr ⟨List.mem_of_getElem? (i := 376) (by decide +kernel), List.forall_mem_cons.mpr ⟨List.mem_of_getElem? (i := 377) (by decide +kernel), List.forall_mem_cons.mpr ⟨List.mem_of_getElem? (i := 378) (by decide +kernel), List.forall_mem_cons.mpr ⟨List.mem_of_getElem? (i := 379) (by decide +kernel), List.forall_mem_cons.mpr ⟨List.mem_of_getElem? (i := 380) (by decide +kernel), List.forall_mem_cons.mpr ⟨List.mem_of_getElem? (i := 381) (by decide +kernel), List.forall_mem_cons.mpr ⟨List.mem_of_getElem? (i := 71) (by decide +kernel), List.forall_mem_cons.mpr ⟨List.mem_of_getElem? (i := 395) (by decide +kernel), List.forall_mem_cons.mpr ⟨List.mem_of_getElem? (i := 120) (by decide +kernel), List.forall_mem_cons.mpr ⟨List.mem_of_getElem? (i := 122) (by decide +kernel), List.forall_mem_cons.mpr ⟨List.mem_of_getElem? (i := 382) (by decide +kernel), List.forall_mem_cons.mpr ⟨List.mem_of_getElem? (i := 384) (by decide +kernel), List.forall_mem_cons.mpr ⟨List.mem_of_getElem? (i := 9) (by decide +kernel), List.forall_mem_cons.mpr ⟨List.mem_of_getElem? (i := 385) (by decide +kernel), List.forall_mem_cons.mpr ⟨List.mem_of_getElem? (i := 386) (by decide +kernel), List.forall_mem_cons.mpr ⟨List.mem_of_getElem? (i := 387) (by decide +kernel), List.forall_mem_cons.mpr ⟨List.mem_of_getElem? (i := 388) (by decide +kernel), List.forall_mem_cons.mpr ⟨List.mem_of_getElem? (i := 389) (by decide +kernel), List.forall_mem_cons.mpr ⟨List.mem_of_getElem? (i := 390) (by decide +kernel), List.forall_mem_cons.mpr ⟨List.mem_of_getElem? (i := 391) (by decide +kernel), List.forall_mem_cons.mpr ⟨List.mem_of_getElem? (i := 393) (by decide +kernel), List.forall_mem_cons.mpr ⟨List.mem_of_getElem? (i := 10) (by decide +kernel), List.forall_mem_cons.mpr ⟨List.mem_of_getElem? (i := 394) (by decide +kernel), fun _ h => absurd h List.not_mem_nil⟩⟩⟩⟩⟩⟩⟩⟩⟩⟩⟩⟩⟩⟩⟩⟩⟩⟩⟩⟩⟩⟩⟩⟩
set_option maxRecDepth 20000 in
theorem wl_wsL_law_r20 : ∀ w ∈ wsL_law_r20, w ∈ lw_tbl := List.forall_mem_cons.mpr ⟨List.mem_of_getElem? (i := 396) (by decide +kernel), List.forall_mem_cons.mpr ⟨List.mem_of_getElem? (i := 397) (by decide +kernel), List.forall_mem_cons.mpr ⟨List.mem_of_getElem? (i := 399) (by decide +kernel), List.forall_mem_cons.mpr ⟨List.mem_of_getElem? (i := 11) (by decide +kernel), List.forall_mem_cons.mpr ⟨List.mem_of_getElem? (i := 400) (by decide +kernel), List.forall_mem_cons.mpr ⟨List.mem_of_getElem? (i := 401) (by decide +kernel), List.forall_mem_cons.mpr ⟨List.mem_of_getElem? (i := 403) (by decide +kernel), List.forall_mem_cons.mpr ⟨List.mem_of_getElem? (i := 12) (by decide +kernel), List.forall_mem_cons.mpr ⟨List.mem_of_getElem? (i := 404) (by decide +kernel), List.forall_mem_cons.mpr ⟨List.mem_of_getElem? (i := 741) (by decide +kernel), List.forall_mem_cons.mpr ⟨List.mem_of_getElem? (i := 742) (by decide +kernel), List.forall_mem_cons.mpr ⟨List.mem_of_getElem? (i := 743) (by decide +kernel), List.forall_mem_cons.mpr ⟨List.mem_of_getElem? (i := 744) (by decide +kernel), List.forall_mem_cons.mpr ⟨List.mem_of_getElem? (i := 750) (by decide +kernel), List.forall_mem_cons.mpr ⟨List.mem_of_getElem? (i := 745) (by decide +kernel), List.forall_mem_cons.mpr ⟨List.mem_of_getElem? (i := 747) (by decide +kernel), List.forall_mem_cons.mpr ⟨List.mem_of_getElem? (i := 36) (by decide +kernel), List.forall_mem_cons.mpr ⟨List.mem_of_getElem? (i := 748) (by decide +kernel), List.forall_mem_cons.mpr ⟨List.mem_of_getElem? (i := 749) (by decide +kernel), List.forall_mem_cons.mpr ⟨List.mem_of_getElem? (i := 751) (by decide +kernel), List.forall_mem_cons.mpr ⟨List.mem_of_getElem? (i := 753) (by decide +kernel), List.forall_mem_cons.mpr ⟨List.mem_of_getElem? (i := 37) (by decide +kernel), List.forall_mem_cons.mpr ⟨List.mem_of_getElem? (i := 754) (by decide +kernel), List.forall_mem_cons.mpr ⟨List.mem_of_getElem? (i := 755) (by decide +kernel), fun _ h => absurd h List.not_mem_nil⟩⟩⟩⟩⟩⟩⟩⟩⟩⟩⟩⟩⟩⟩⟩⟩⟩⟩⟩⟩⟩⟩⟩⟩
set_option maxRecDepth 20000 in
theorem wl_wsL_law_r21 : ∀ w ∈ wsL_law_r21, w ∈ lw_tbl := List.forall_mem_cons.mpr ⟨List.mem_of_getElem? (i := 757) (by decide +kernel), List.forall_mem_cons.mpr ⟨List.mem_of_getElem? (i := 38) (by decide +kernel), List.forall_mem_cons.mpr ⟨List.mem_of_getElem? (i := 758) (by decide +kernel), List.forall_mem_cons.mpr ⟨List.mem_of_getElem? (i := 759) (by decide +kernel), List.forall_mem_cons.mpr ⟨List.mem_of_getElem? (i := 761) (by decide +kernel), List.forall_mem_cons.mpr ⟨List.mem_of_getElem? (i := 39) (by decide +kernel), List.forall_mem_cons.mpr ⟨List.mem_of_getElem? (i := 762) (by decide +kernel), List.forall_mem_cons.mpr ⟨List.mem_of_getElem? (i := 763) (by decide +kernel), List.forall_mem_cons.mpr ⟨List.mem_of_getElem? (i := 764) (by decide +kernel), List.forall_mem_cons.mpr ⟨List.mem_of_getElem? (i := 765) (by decide +kernel), List.forall_mem_cons.mpr ⟨List.mem_of_getElem? (i := 405) (by decide +kernel), List.forall_mem_cons.mpr ⟨List.mem_of_getElem? (i := 406) (by decide +kernel), List.forall_mem_cons.mpr ⟨List.mem_of_getElem? (i := 407) (by decide +kernel), List.forall_mem_cons.mpr ⟨List.mem_of_getElem? (i := 408) (by decide +kernel), List.forall_mem_cons.mpr ⟨List.mem_of_getElem? (i := 766) (by decide +kernel), List.forall_mem_cons.mpr ⟨List.mem_of_getElem? (i := 767) (by decide +kernel), List.forall_mem_cons.mpr ⟨List.mem_of_getElem? (i := 768) (by decide +kernel), List.forall_mem_cons.mpr ⟨List.mem_of_getElem? (i := 769) (by decide +kernel), List.forall_mem_cons.mpr ⟨List.mem_of_getElem? (i := 409) (by decide +kernel), List.forall_mem_cons.mpr ⟨List.mem_of_getElem? (i := 410) (by decide +kernel), List.forall_mem_cons.mpr ⟨List.mem_of_getElem? (i := 411) (by decide +kernel), List.forall_mem_cons.mpr ⟨List.mem_of_getElem? (i := 412) (by decide +kernel), List.forall_mem_cons.mpr ⟨List.mem_of_getElem? (i := 413) (by decide +kernel), List.forall_mem_cons.mpr ⟨List.mem_of_getElem? (i := 414) (by decide +kernel), fun _ h => absurd h List.not_mem_nil⟩⟩⟩⟩⟩⟩⟩⟩⟩⟩⟩⟩⟩⟩⟩⟩⟩⟩⟩⟩⟩⟩⟩⟩
set_option maxRecDepth 20000 in
theorem wl_wsL_law_r22 : ∀ w ∈ wsL_law_r22, w ∈ lw_tbl := List.forall_mem_cons.mpr ⟨List.mem_of_getElem? (i := 415) (by decide +kernel), List.forall_mem_cons.mpr ⟨List.mem_of_getElem? (i := 416) (by decide +kernel), List.forall_mem_cons.mpr ⟨List.mem_of_getElem? (i := 417) (by decide +kernel), List.forall_mem_cons.mpr ⟨List.mem_of_getElem? (i := 418) (by decide +kernel), List.forall_mem_cons.mpr ⟨List.mem_of_getElem? (i := 419) (by decide +kernel), List.forall_mem_cons.mpr ⟨List.mem_of_getElem? (i := 420) (by decide +kernel), List.forall_mem_cons.mpr ⟨List.mem_of_getElem? (i := 421) (by decide +kernel), List.forall_mem_cons.mpr ⟨List.mem_of_getElem? (i := 770) (by decide +kernel), List.forall_mem_cons.mpr ⟨List.mem_of_getElem? (i := 771) (by decide +kernel), List.forall_mem_cons.mpr ⟨List.mem_of_getElem? (i := 772) (by decide +kernel), List.forall_mem_cons.mpr ⟨List.mem_of_getElem? (i := 773) (by decide +kernel), List.forall_mem_cons.mpr ⟨List.mem_of_getElem? (i := 422) (by decide +kernel), List.forall_mem_cons.mpr ⟨List.mem_of_getElem? (i := 423) (by decide +kernel), List.forall_mem_cons.mpr ⟨List.mem_of_getElem? (i := 424) (by decide +kernel), List.forall_mem_cons.mpr ⟨List.mem_of_getElem? (i := 425) (by decide +kernel), List.forall_mem_cons.mpr ⟨List.mem_of_getElem? (i := 426) (by decide +kernel), List.forall_mem_cons.mpr ⟨List.mem_of_getElem? (i := 427) (by decide +kernel), List.forall_mem_cons.mpr ⟨List.mem_of_getElem? (i := 428) (by decide +kernel), List.forall_mem_cons.mpr ⟨List.mem_of_getElem? (i := 429) (by decide +kernel), List.forall_mem_cons.mpr ⟨List.mem_of_getElem? (i := 430) (by decide +kernel), List.forall_mem_cons.mpr ⟨List.mem_of_getElem? (i := 774) (by decide +kernel), List.forall_mem_cons.mpr ⟨List.mem_of_getElem? (i := 775) (by decide +kernel), List.forall_mem_cons.mpr ⟨List.mem_of_getElem? (i := 776) (by decide +kernel), List.forall_mem_cons.mpr ⟨List.mem_of_getElem? (i := 777) (by decide +kernel), fun _ h => absurd h List.not_mem_nil⟩⟩⟩⟩⟩⟩⟩⟩⟩⟩⟩⟩⟩⟩⟩⟩⟩⟩⟩⟩⟩⟩⟩⟩
set_option maxRecDepth 20000 in
theorem wl_wsL_law_r23 : ∀ w ∈ wsL_law_r23, w ∈ lw_tbl := List.forall_mem_cons.mpr ⟨List.mem_of_getElem? (i := 431) (by decide +kernel), List.forall_mem_cons.mpr ⟨List.mem_of_getElem? (i := 432) (by decide +kernel), List.forall_mem_cons.mpr ⟨List.mem_of_getElem? (i := 433) (by decide +kernel), List.forall_mem_cons.mpr ⟨List.mem_of_getElem? (i := 434) (by decide +kernel), List.forall_mem_cons.mpr ⟨List.mem_of_getElem? (i := 778) (by decide +kernel), List.forall_mem_cons.mpr ⟨List.mem_of_getElem? (i := 779) (by decide +kernel), List.forall_mem_cons.mpr ⟨List.mem_of_getElem? (i := 780) (by decide +kernel), List.forall_mem_cons.mpr ⟨List.mem_of_getElem? (i := 781) (by decide +kernel), List.forall_mem_cons.mpr ⟨List.mem_of_getElem? (i := 435) (by decide +kernel), List.forall_mem_cons.mpr ⟨List.mem_of_getElem? (i := 436) (by decide +kernel), List.forall_mem_cons.mpr ⟨List.mem_of_getElem? (i := 437) (by decide +kernel), List.forall_mem_cons.mpr ⟨List.mem_of_getElem? (i := 438) (by decide +kernel), List.forall_mem_cons.mpr ⟨List.mem_of_getElem? (i := 439) (by decide +kernel), List.forall_mem_cons.mpr ⟨List.mem_of_getElem? (i := 440) (by decide +kernel), List.forall_mem_cons.mpr ⟨List.mem_of_getElem? (i := 441) (by decide +kernel), List.forall_mem_cons.mpr ⟨List.mem_of_getElem? (i := 442) (by decide +kernel), List.forall_mem_cons.mpr ⟨List.mem_of_getElem? (i := 782) (by decide +kernel), List.forall_mem_cons.mpr ⟨List.mem_of_getElem? (i := 783) (by decide +kernel), List.forall_mem_cons.mpr ⟨List.mem_of_getElem? (i := 784) (by decide +kernel), List.forall_mem_cons.mpr ⟨List.mem_of_getElem? (i := 785) (by decide +kernel), List.forall_mem_cons.mpr ⟨List.mem_of_getElem? (i := 786) (by decide +kernel), List.forall_mem_cons.mpr ⟨List.mem_of_getElem? (i := 788) (by decide +kernel), List.forall_mem_cons.mpr ⟨List.mem_of_getElem? (i := 40) (by decide +kernel), List.forall_mem_cons.mpr ⟨List.mem_of_getElem? (i := 789) (by decide +kernel), fun _ h => absurd h List.not_mem_nil⟩⟩⟩⟩⟩⟩⟩⟩⟩⟩⟩⟩⟩⟩⟩⟩⟩⟩⟩⟩⟩⟩⟩⟩
set_option maxRecDepth 20000 in
theorem wl_wsL_law_r24 : ∀ w ∈ wsL_law_r24, w ∈ lw_tbl := List.forall_mem_cons.mpr ⟨List.mem_of_getElem? (i := 443) (by decide +kernel), List.forall_mem_cons.mpr ⟨List.mem_of_getElem? (i := 444) (by decide +kernel), List.forall_mem_cons.mpr ⟨List.mem_of_getElem? (i := 445) (by decide +kernel), List.forall_mem_cons.mpr ⟨List.mem_of_getElem? (i := 446) (by decide +kernel), List.forall_mem_cons.mpr ⟨List.mem_of_getElem? (i := 790) (by decide +kernel), List.forall_mem_cons.mpr ⟨List.mem_of_getElem? (i := 791) (by decide +kernel), List.forall_mem_cons.mpr ⟨List.mem_of_getElem? (i := 792) (by decide +kernel), List.forall_mem_cons.mpr ⟨List.mem_of_getElem? (i := 793) (by decide +kernel), List.forall_mem_cons.mpr ⟨List.mem_of_getElem? (i := 447) (by decide +kernel), List.forall_mem_cons.mpr ⟨List.mem_of_getElem? (i := 448) (by decide +kernel), List.forall_mem_cons.mpr ⟨List.mem_of_getElem? (i := 449) (by decide +kernel), List.forall_mem_cons.mpr ⟨List.mem_of_getElem? (i := 450) (by decide +kernel), List.forall_mem_cons.mpr ⟨List.mem_of_getElem? (i := 451) (by decide +kernel), List.forall_mem_cons.mpr ⟨List.mem_of_getElem? (i := 452) (by decide +kernel), List.forall_mem_cons.mpr ⟨List.mem_of_getElem? (i := 453) (by decide +kernel), List.forall_mem_cons.mpr ⟨List.mem_of_getElem? (i := 454) (by decide +kernel), List.forall_mem_cons.mpr ⟨List.mem_of_getElem? (i := 455) (by decide +kernel), List.forall_mem_cons.mpr ⟨List.mem_of_getElem? (i := 457) (by decide +kernel), List.forall_mem_cons.mpr ⟨List.mem_of_getElem? (i := 13) (by decide +kernel), List.forall_mem_cons.mpr ⟨List.mem_of_getElem? (i := 458) (by decide +kernel), List.forall_mem_cons.mpr ⟨List.mem_of_getElem? (i := 794) (by decide +kernel), List.forall_mem_cons.mpr ⟨List.mem_of_getElem? (i := 795) (by decide +kernel), List.forall_mem_cons.mpr ⟨List.mem_of_getElem? (i := 796) (by decide +kernel), List.forall_mem_cons.mpr ⟨List.mem_of_getElem? (i := 797) (by decide +kernel), fun _ h => absurd h List.not_mem_nil⟩⟩⟩⟩⟩⟩⟩⟩⟩⟩⟩⟩⟩⟩⟩⟩⟩⟩⟩⟩⟩⟩⟩⟩
set_option maxRecDepth 20000 in
theorem wl_wsL_law_r25 : ∀ w ∈ wsL_law_r25, w ∈ lw_tbl := List.forall_mem_cons.mpr ⟨List.mem_of_getElem? (i := 798) (by decide +kernel), List.forall_mem_cons.mpr ⟨List.mem_of_getElem? (i := 800) (by decide +kernel), List.forall_mem_cons.mpr ⟨List.mem_of_getElem? (i := 41) (by decide +kernel), List.forall_mem_cons.mpr ⟨List.mem_of_getElem? (i := 801) (by decide +kernel), List.forall_mem_cons.mpr ⟨List.mem_of_getElem? (i := 459) (by decide +kernel), List.forall_mem_cons.mpr ⟨List.mem_of_getElem? (i := 460) (by decide +kernel), List.forall_mem_cons.mpr ⟨List.mem_of_getElem? (i := 461) (by decide +kernel), List.forall_mem_cons.mpr ⟨List.mem_of_getElem? (i := 462) (by decide +kernel), List.forall_mem_cons.mpr ⟨List.mem_of_getElem? (i := 463) (by decide +kernel), List.forall_mem_cons.mpr ⟨List.mem_of_getElem? (i := 464) (by decide +kernel), List.forall_mem_cons.mpr ⟨List.mem_of_getElem? (i := 465) (by decide +kernel), List.forall_mem_cons.mpr ⟨List.mem_of_getElem? (i := 466) (by decide +kernel), List.forall_mem_cons.mpr ⟨List.mem_of_getElem? (i := 467) (by decide +kernel), List.forall_mem_cons.mpr ⟨List.mem_of_getElem? (i := 802) (by decide +kernel), List.forall_mem_cons.mpr ⟨List.mem_of_getElem? (i := 803) (by decide +kernel), List.forall_mem_cons.mpr ⟨List.mem_of_getElem? (i := 804) (by decide +kernel), List.forall_mem_cons.mpr ⟨List.mem_of_getElem? (i := 805) (by decide +kernel), List.forall_mem_cons.mpr ⟨List.mem_of_getElem? (i := 468) (by decide +kernel), List.forall_mem_cons.mpr ⟨List.mem_of_getElem? (i := 469) (by decide +kernel), List.forall_mem_cons.mpr ⟨List.mem_of_getElem? (i := 470) (by decide +kernel), List.forall_mem_cons.mpr ⟨List.mem_of_getElem? (i := 471) (by decide +kernel), List.forall_mem_cons.mpr ⟨List.mem_of_getElem? (i := 806) (by decide +kernel), List.forall_mem_cons.mpr ⟨List.mem_of_getElem? (i := 807) (by decide +kernel), List.forall_mem_cons.mpr ⟨List.mem_of_getElem? (i := 808) (by decide +kernel), fun _ h => absurd h List.not_mem_nil⟩⟩⟩⟩⟩⟩⟩⟩⟩⟩⟩⟩⟩⟩⟩⟩⟩⟩⟩⟩⟩⟩⟩⟩
set_option maxRecDepth 20000 in
theorem wl_wsL_law_r26 : ∀ w ∈ wsL_law_r26, w ∈ lw_tbl := List.forall_mem_cons.mpr ⟨List.mem_of_getElem? (i := 809) (by decide +kernel), List.forall_mem_cons.mpr ⟨List.mem_of_getElem? (i := 472) (by decide +kernel), List.forall_mem_cons.mpr ⟨List.mem_of_getElem? (i := 473) (by decide +kernel), List.forall_mem_cons.mpr ⟨List.mem_of_getElem? (i := 474) (by decide +kernel), List.forall_mem_cons.mpr ⟨List.mem_of_getElem? (i := 475) (by decide +kernel), List.forall_mem_cons.mpr ⟨List.mem_of_getElem? (i := 810) (by decide +kernel), List.forall_mem_cons.mpr ⟨List.mem_of_getElem? (i := 811) (by decide +kernel), List.forall_mem_cons.mpr ⟨List.mem_of_getElem? (i := 812) (by decide +kernel), List.forall_mem_cons.mpr ⟨List.mem_of_getElem? (i := 813) (by decide +kernel), List.forall_mem_cons.mpr ⟨List.mem_of_getElem? (i := 476) (by decide +kernel), List.forall_mem_cons.mpr ⟨List.mem_of_getElem? (i := 477) (by decide +kernel), List.forall_mem_cons.mpr ⟨List.mem_of_getElem? (i := 478) (by decide +kernel), List.forall_mem_cons.mpr ⟨List.mem_of_getElem? (i := 479) (by decide +kernel), List.forall_mem_cons.mpr ⟨List.mem_of_getElem? (i := 139) (by decide +kernel), List.forall_mem_cons.mpr ⟨List.mem_of_getElem? (i := 814) (by decide +kernel), List.forall_mem_cons.mpr ⟨List.mem_of_getElem? (i := 815) (by decide +kernel), List.forall_mem_cons.mpr ⟨List.mem_of_getElem? (i := 816) (by decide +kernel), List.forall_mem_cons.mpr ⟨List.mem_of_getElem? (i := 817) (by decide +kernel), List.forall_mem_cons.mpr ⟨List.mem_of_getElem? (i := 554) (by decide +kernel), List.forall_mem_cons.mpr ⟨List.mem_of_getElem? (i := 480) (by decide +kernel), List.forall_mem_cons.mpr ⟨List.mem_of_getElem? (i := 481) (by decide +kernel), List.forall_mem_cons.mpr ⟨List.mem_of_getElem? (i := 482) (by decide +kernel), List.forall_mem_cons.mpr ⟨List.mem_of_getElem? (i := 483) (by decide +kernel), List.forall_mem_cons.mpr ⟨List.mem_of_getElem? (i := 484) (by decide +kernel), fun _ h => absurd h List.not_mem_nil⟩⟩⟩⟩⟩⟩⟩⟩⟩⟩⟩⟩⟩⟩⟩⟩⟩⟩⟩⟩⟩⟩⟩⟩
set_option maxRecDepth 20000 in
theorem wl_wsL_law_r27 : ∀ w ∈ wsL_law_r27, w ∈ lw_tbl := List.forall_mem_cons.mpr ⟨List.mem_of_getElem? (i := 485) (by decide +kernel), List.forall_mem_cons.mpr ⟨List.mem_of_getElem? (i := 487) (by decide +kernel), List.forall_mem_cons.mpr ⟨List.mem_of_getElem? (i := 14) (by decide +kernel), List.forall_mem_cons.mpr ⟨List.mem_of_getElem? (i := 488) (by decide +kernel), List.forall_mem_cons.mpr ⟨List.mem_of_getElem? (i := 489) (by decide +kernel), List.forall_mem_cons.mpr ⟨List.mem_of_getElem? (i := 818) (by decide +kernel), List.forall_mem_cons.mpr ⟨List.mem_of_getElem? (i := 819) (by decide +kernel), List.forall_mem_cons.mpr ⟨List.mem_of_getElem? (i := 820) (by decide +kernel), List.forall_mem_cons.mpr ⟨List.mem_of_getElem? (i := 821) (by decide +kernel), List.forall_mem_cons.mpr ⟨List.mem_of_getElem? (i := 822) (by decide +kernel), List.forall_mem_cons.mpr ⟨List.mem_of_getElem? (i := 823) (by decide +kernel), List.forall_mem_cons.mpr ⟨List.mem_of_getElem? (i := 824) (by decide +kernel), List.forall_mem_cons.mpr ⟨List.mem_of_getElem? (i := 825) (by decide +kernel), List.forall_mem_cons.mpr ⟨List.mem_of_getElem? (i := 827) (by decide +kernel), List.forall_mem_cons.mpr ⟨List.mem_of_getElem? (i := 42) (by decide +kernel), List.forall_mem_cons.mpr ⟨List.mem_of_getElem? (i := 828) (by decide +kernel), List.forall_mem_cons.mpr ⟨List.mem_of_getElem? (i := 490) (by decide +kernel), List.forall_mem_cons.mpr ⟨List.mem_of_getElem? (i := 491) (by decide +kernel), List.forall_mem_cons.mpr ⟨List.mem_of_getElem? (i := 492) (by decide +kernel), List.forall_mem_cons.mpr ⟨List.mem_of_getElem? (i := 493) (by decide +kernel), List.forall_mem_cons.mpr ⟨List.mem_of_getElem? (i := 494) (by decide +kernel), List.forall_mem_cons.mpr ⟨List.mem_of_getElem? (i := 496) (by decide +kernel), List.forall_mem_cons.mpr ⟨List.mem_of_getElem? (i := 15) (by decide +kernel), List.forall_mem_cons.mpr ⟨List.mem_of_getElem? (i := 497) (by decide +kernel), fun _ h => absurd h List.not_mem_nil⟩⟩⟩⟩⟩⟩⟩⟩⟩⟩⟩⟩⟩⟩⟩⟩⟩⟩⟩⟩⟩⟩⟩⟩
set_option maxRecDepth 20000 in
theorem wl_wsL_law_r28 : ∀ w ∈ wsL_law_r28, w ∈ lw_tbl := List.forall_mem_cons.mpr ⟨List.mem_of_getElem? (i := 829) (by decide +kernel), List.forall_mem_cons.mpr ⟨List.mem_of_getElem? (i := 830) (by decide +kernel), List.forall_mem_cons.mpr ⟨List.mem_of_getElem? (i := 831) (by decide +kernel), List.forall_mem_cons.mpr ⟨List.mem_of_getElem? (i := 832) (by decide +kernel), List.forall_mem_cons.mpr ⟨List.mem_of_getElem? (i := 498) (by decide +kernel), List.forall_mem_cons.mpr ⟨List.mem_of_getElem? (i := 499) (by decide +kernel), List.forall_mem_cons.mpr ⟨List.mem_of_getElem? (i := 500) (by decide +kernel), List.forall_mem_cons.mpr ⟨List.mem_of_getElem? (i := 501) (by decide +kernel), List.forall_mem_cons.mpr ⟨List.mem_of_getElem? (i := 502) (by decide +kernel), List.forall_mem_cons.mpr ⟨List.mem_of_getElem? (i := 503) (by decide +kernel), List.forall_mem_cons.mpr ⟨List.mem_of_getElem? (i := 504) (by decide +kernel), List.forall_mem_cons.mpr ⟨List.mem_of_getElem? (i := 505) (by decide +kernel), List.forall_mem_cons.mpr ⟨List.mem_of_getElem? (i := 506) (by decide +kernel), List.forall_mem_cons.mpr ⟨List.mem_of_getElem? (i := 507) (by decide +kernel), List.forall_mem_cons.mpr ⟨List.mem_of_getElem? (i := 508) (by decide +kernel), List.forall_mem_cons.mpr ⟨List.mem_of_getElem? (i := 833) (by decide +kernel), List.forall_mem_cons.mpr ⟨List.mem_of_getElem? (i := 834) (by decide +kernel), List.forall_mem_cons.mpr ⟨List.mem_of_getElem? (i := 835) (by decide +kernel), List.forall_mem_cons.mpr ⟨List.mem_of_getElem? (i := 836) (by decide +kernel), List.forall_mem_cons.mpr ⟨List.mem_of_getElem? (i := 837) (by decide +kernel), List.forall_mem_cons.mpr ⟨List.mem_of_getElem? (i := 838) (by decide +kernel), List.forall_mem_cons.mpr ⟨List.mem_of_getElem? (i := 839) (by decide +kernel), List.forall_mem_cons.mpr ⟨List.mem_of_getElem? (i := 509) (by decide +kernel), List.forall_mem_cons.mpr ⟨List.mem_of_getElem? (i := 510) (by decide +kernel), fun _ h => absurd h List.not_mem_nil⟩⟩⟩⟩⟩⟩⟩⟩⟩⟩⟩⟩⟩⟩⟩⟩⟩⟩⟩⟩⟩⟩⟩⟩
set_option maxRecDepth 20000 in
theorem wl_wsL_law_r29 : ∀ w ∈ wsL_law_r29, w ∈ lw_tbl := List.forall_mem_cons.mpr ⟨List.mem_of_getElem? (i := 511) (by decide +kernel), List.forall_mem_cons.mpr ⟨List.mem_of_getElem? (i := 512) (by decide +kernel), List.forall_mem_cons.mpr ⟨List.mem_of_getElem? (i := 135) (by decide +kernel), List.forall_mem_cons.mpr ⟨List.mem_of_getElem? (i := 695) (by decide +kernel), List.forall_mem_cons.mpr ⟨List.mem_of_getElem? (i := 696) (by decide +kernel), List.forall_mem_cons.mpr ⟨List.mem_of_getElem? (i := 697) (by decide +kernel), List.forall_mem_cons.mpr ⟨List.mem_of_getElem? (i := 698) (by decide +kernel), List.forall_mem_cons.mpr ⟨List.mem_of_getElem? (i := 549) (by decide +kernel), List.forall_mem_cons.mpr ⟨List.mem_of_getElem? (i := 513) (by decide +kernel), List.forall_mem_cons.mpr ⟨List.mem_of_getElem? (i := 514) (by decide +kernel), List.forall_mem_cons.mpr ⟨List.mem_of_getElem? (i := 515) (by decide +kernel), List.forall_mem_cons.mpr ⟨List.mem_of_getElem? (i := 516) (by decide +kernel), List.forall_mem_cons.mpr ⟨List.mem_of_getElem? (i := 699) (by decide +kernel), List.forall_mem_cons.mpr ⟨List.mem_of_getElem? (i := 700) (by decide +kernel), List.forall_mem_cons.mpr ⟨List.mem_of_getElem? (i := 701) (by decide +kernel), List.forall_mem_cons.mpr ⟨List.mem_of_getElem? (i := 702) (by decide +kernel), List.forall_mem_cons.mpr ⟨List.mem_of_getElem? (i := 517) (by decide +kernel), List.forall_mem_cons.mpr ⟨List.mem_of_getElem? (i := 518) (by decide +kernel), List.forall_mem_cons.mpr ⟨List.mem_of_getElem? (i := 519) (by decide +kernel), List.forall_mem_cons.mpr ⟨List.mem_of_getElem? (i := 520) (by decide +kernel), List.forall_mem_cons.mpr ⟨List.mem_of_getElem? (i := 79) (by decide +kernel), List.forall_mem_cons.mpr ⟨List.mem_of_getElem? (i := 107) (by decide +kernel), List.forall_mem_cons.mpr ⟨List.mem_of_getElem? (i := 521) (by decide +kernel), List.forall_mem_cons.mpr ⟨List.mem_of_getElem? (i := 522) (by decide +kernel), fun _ h => absurd h List.not_mem_nil⟩⟩⟩⟩⟩⟩⟩⟩⟩⟩⟩⟩⟩⟩⟩⟩⟩⟩⟩⟩⟩⟩⟩⟩
set_option maxRecDepth 20000 in
theorem wl_wsL_law_r30 : ∀ w ∈ wsL_law_r30, w ∈ lw_tbl := List.forall_mem_cons.mpr ⟨List.mem_of_getElem? (i := 523) (by decide +kernel), List.forall_mem_cons.mpr ⟨List.mem_of_getElem? (i := 524) (by decide +kernel), List.forall_mem_cons.mpr ⟨List.mem_of_getElem? (i := 840) (by decide +kernel), List.forall_mem_cons.mpr ⟨List.mem_of_getElem? (i := 841) (by decide +kernel), List.forall_mem_cons.mpr ⟨List.mem_of_getElem? (i := 842) (by decide +kernel), List.forall_mem_cons.mpr ⟨List.mem_of_getElem? (i := 843) (by decide +kernel), fun _ h => absurd h List.not_mem_nil⟩⟩⟩⟩⟩⟩
set_option maxRecDepth 20000 in
theorem wl_wsX40 : ∀ w ∈ wsX40, w ∈ lw_tbl := by
  show ∀ w ∈ [u_lay RX4 TX4 0, u_lay RX4 TX4 1, u_lay RX4 TX4 2, u_lay RX4 TX4 3, u_lay RX4 TX4 4, u_lay RX4 TX4 5, u_lay RX4 TX4 6, u_lay RX4 TX4 7, u_lay RX4 TX4 8], w ∈ lw_tbl
  exact List.forall_mem_cons.mpr ⟨List.mem_of_getElem? (i := 141) (by decide +kernel), List.forall_mem_cons.mpr ⟨List.mem_of_getElem? (i := 143) (by decide +kernel), List.forall_mem_cons.mpr ⟨List.mem_of_getElem? (i := 145) (by decide +kernel), List.forall_mem_cons.mpr ⟨List.mem_of_getElem? (i := 147) (by decide +kernel), List.forall_mem_cons.mpr ⟨List.mem_of_getElem? (i := 149) (by decide +kernel), List.forall_mem_cons.mpr ⟨List.mem_of_getElem? (i := 151) (by decide +kernel), List.forall_mem_cons.mpr ⟨List.mem_of_getElem? (i := 153) (by decide +kernel), List.forall_mem_cons.mpr ⟨List.mem_of_getElem? (i := 155) (by decide +kernel), List.forall_mem_cons.mpr ⟨List.mem_of_getElem? (i := 157) (by decide +kernel), fun _ h => absurd h List.not_mem_nil⟩⟩⟩⟩⟩⟩⟩⟩⟩
set_option maxRecDepth 20000 in
theorem wl_wsX50 : ∀ w ∈ wsX50, w ∈ lw_tbl := by
  show ∀ w ∈ [u_lay RX5 TX5 0, u_lay RX5 TX5 1, u_lay RX5 TX5 2, u_lay RX5 TX5 3, u_lay RX5 TX5 4, u_lay RX5 TX5 5, u_lay RX5 TX5 6, u_lay RX5 TX5 7, u_lay RX5 TX5 8, u_lay RX5 TX5 9, u_lay RX5 TX5 10, u_lay RX5 TX5 11, u_lay RX5 TX5 12, u_lay RX5 TX5 13, u_lay RX5 TX5 14, u_lay RX5 TX5 15, u_lay RX5 TX5 16, u_lay RX5 TX5 17, u_lay RX5 TX5 18, u_lay RX5 TX5 19, u_lay RX5 TX5 20, u_lay RX5 TX5 21, u_lay RX5 TX5 22, u_lay RX5 TX5 23], w ∈ lw_tbl
  exact List.forall_mem_cons.mpr ⟨List.mem_of_getElem? (i := 555) (by decide +kernel), List.forall_mem_cons.mpr ⟨List.mem_of_getElem? (i := 557) (by decide +kernel), List.forall_mem_cons.mpr ⟨List.mem_of_getElem? (i := 559) (by decide +kernel), List.forall_mem_cons.mpr ⟨List.mem_of_getElem? (i := 561) (by decide +kernel), List.forall_mem_cons.mpr ⟨List.mem_of_getElem? (i := 563) (by decide +kernel), List.forall_mem_cons.mpr ⟨List.mem_of_getElem? (i := 565) (by decide +kernel), List.forall_mem_cons.mpr ⟨List.mem_of_getElem? (i := 567) (by decide +kernel), List.forall_mem_cons.mpr ⟨List.mem_of_getElem? (i := 569) (by decide +kernel), List.forall_mem_cons.mpr ⟨List.mem_of_getElem? (i := 571) (by decide +kernel), List.forall_mem_cons.mpr ⟨List.mem_of_getElem? (i := 573) (by decide +kernel), List.forall_mem_cons.mpr ⟨List.mem_of_getElem? (i := 575) (by decide +kernel), List.forall_mem_cons.mpr ⟨List.mem_of_getElem? (i := 577) (by decide +kernel), List.forall_mem_cons.mpr ⟨List.mem_of_getElem? (i := 579) (by decide +kernel), List.forall_mem_cons.mpr ⟨List.mem_of_getElem? (i := 581) (by decide +kernel), List.forall_mem_cons.mpr ⟨List.mem_of_getElem? (i := 583) (by decide +kernel), List.forall_mem_cons.mpr ⟨List.mem_of_getElem? (i := 585) (by decide +kernel), List.forall_mem_cons.mpr ⟨List.mem_of_getElem? (i := 587) (by decide +kernel), List.forall_mem_cons.mpr ⟨List.mem_of_getElem? (i := 589) (by decide +kernel), List.forall_mem_cons.mpr ⟨List.mem_of_getElem? (i := 591) (by decide +kernel), List.forall_mem_cons.mpr ⟨List.mem_of_getElem? (i := 593) (by decide +kernel), List.forall_mem_cons.mpr ⟨List.mem_of_getElem? (i := 595) (by decide +kernel), List.forall_mem_cons.mpr ⟨List.mem_of_getElem? (i := 597) (by decide +kernel), List.forall_mem_cons.mpr ⟨List.mem_of_getElem? (i := 599) (by decide +kernel), List.forall_mem_cons.mpr ⟨List.mem_of_getElem? (i := 601) (by decide +kernel), fun _ h => absurd h List.not_mem_nil⟩⟩⟩⟩⟩⟩⟩⟩⟩⟩⟩⟩⟩⟩⟩⟩⟩⟩⟩⟩⟩⟩⟩⟩
set_option maxRecDepth 20000 in
theorem wl_wsX30 : ∀ w ∈ wsX30, w ∈ lw_tbl := by
  show ∀ w ∈ [u_lay RX3 TX3 0, u_lay RX3 TX3 1, u_lay RX3 TX3 2, u_lay RX3 TX3 3, u_lay RX3 TX3 4, u_lay RX3 TX3 5, u_lay RX3 TX3 6], w ∈ lw_tbl
  exact List.forall_mem_cons.mpr ⟨List.mem_of_getElem? (i := 83) (by decide +kernel), List.forall_mem_cons.mpr ⟨List.mem_of_getElem? (i := 85) (by decide +kernel), List.forall_mem_cons.mpr ⟨List.mem_of_getElem? (i := 87) (by decide +kernel), List.forall_mem_cons.mpr ⟨List.mem_of_getElem? (i := 89) (by decide +kernel), List.forall_mem_cons.mpr ⟨List.mem_of_getElem? (i := 91) (by decide +kernel), List.forall_mem_cons.mpr ⟨List.mem_of_getElem? (i := 93) (by decide +kernel), List.forall_mem_cons.mpr ⟨List.mem_of_getElem? (i := 95) (by decide +kernel), fun _ h => absurd h List.not_mem_nil⟩⟩⟩⟩⟩⟩⟩
set_option maxRecDepth 20000 in
theorem wl_wsX20 : ∀ w ∈ wsX20, w ∈ lw_tbl := by
  show ∀ w ∈ [u_lay RX2 TX2 0, u_lay RX2 TX2 1], w ∈ lw_tbl
  exact List.forall_mem_cons.mpr ⟨List.mem_of_getElem? (i := 108) (by decide +kernel), List.forall_mem_cons.mpr ⟨List.mem_of_getElem? (i := 110) (by decide +kernel), fun _ h => absurd h List.not_mem_nil⟩⟩
set_option maxRecDepth 20000 in
theorem wl_wsX10 : ∀ w ∈ wsX10, w ∈ lw_tbl := by
  show ∀ w ∈ [u_lay RX1 TX1 0, u_lay RX1 TX1 1, u_lay RX1 TX1 2], w ∈ lw_tbl
  exact List.forall_mem_cons.mpr ⟨List.mem_of_getElem? (i := 124) (by decide +kernel), List.forall_mem_cons.mpr ⟨List.mem_of_getElem? (i := 126) (by decide +kernel), List.forall_mem_cons.mpr ⟨List.mem_of_getElem? (i := 128) (by decide +kernel), fun _ h => absurd h List.not_mem_nil⟩⟩⟩
theorem wl_nil : ∀ w ∈ ([] : List Cond), w ∈ lw_tbl := fun _ h => absurd h List.not_mem_nil
theorem wsL_law_in : ∀ w ∈ wsL_law, w ∈ lw_tbl := (List.forall_mem_append.mpr ⟨(List.forall_mem_append.mpr ⟨(List.forall_mem_append.mpr ⟨(List.forall_mem_append.mpr ⟨(List.forall_mem_append.mpr ⟨(List.forall_mem_append.mpr ⟨(List.forall_mem_append.mpr ⟨wl_wsL_law_r1, (List.forall_mem_append.mpr ⟨wl_wsL_law_r2, (List.forall_mem_append.mpr ⟨wl_wsL_law_r3, (List.forall_mem_append.mpr ⟨wl_wsL_law_r4, (List.forall_mem_append.mpr ⟨wl_wsL_law_r5, (List.forall_mem_append.mpr ⟨wl_wsL_law_r6, (List.forall_mem_append.mpr ⟨wl_wsL_law_r7, (List.forall_mem_append.mpr ⟨wl_wsL_law_r8, (List.forall_mem_append.mpr ⟨wl_wsL_law_r9, (List.forall_mem_append.mpr ⟨wl_wsL_law_r10, (List.forall_mem_append.mpr ⟨wl_wsL_law_r11, (List.forall_mem_append.mpr ⟨wl_wsL_law_r12, (List.forall_mem_append.mpr ⟨wl_wsL_law_r13, (List.forall_mem_append.mpr ⟨wl_wsL_law_r14, (List.forall_mem_append.mpr ⟨wl_wsL_law_r15, (List.forall_mem_append.mpr ⟨wl_wsL_law_r16, (List.forall_mem_append.mpr ⟨wl_wsL_law_r17, (List.forall_mem_append.mpr ⟨wl_wsL_law_r18, (List.forall_mem_append.mpr ⟨wl_wsL_law_r19, (List.forall_mem_append.mpr ⟨wl_wsL_law_r20, (List.forall_mem_append.mpr ⟨wl_wsL_law_r21, (List.forall_mem_append.mpr ⟨wl_wsL_law_r22, (List.forall_mem_append.mpr ⟨wl_wsL_law_r23, (List.forall_mem_append.mpr ⟨wl_wsL_law_r24, (List.forall_mem_append.mpr ⟨wl_wsL_law_r25, (List.forall_mem_append.mpr ⟨wl_wsL_law_r26, (List.forall_mem_append.mpr ⟨wl_wsL_law_r27, (List.forall_mem_append.mpr ⟨wl_wsL_law_r28, (List.forall_mem_append.mpr ⟨wl_wsL_law_r29, wl_wsL_law_r30⟩)⟩)⟩)⟩)⟩)⟩)⟩)⟩)⟩)⟩)⟩)⟩)⟩)⟩)⟩)⟩)⟩)⟩)⟩)⟩)⟩)⟩)⟩)⟩)⟩)⟩)⟩)⟩)⟩), wl_wsX40⟩), wl_wsX50⟩), wl_wsX30⟩), wl_wsX20⟩), wl_wsX10⟩), wl_nil⟩)
theorem inX0 : ∀ w ∈ wsX00, w ∈ lw_tbl := by decide +kernel
theorem inlX1 : ∀ w ∈ wsX10, w ∈ wsL_law := fun _ h => List.mem_append_left _ (List.mem_append_right _ h)
theorem inX1 : ∀ w ∈ wsX10, w ∈ lw_tbl := fun w h => wsL_law_in w (inlX1 w h)
theorem inlX2 : ∀ w ∈ wsX20, w ∈ wsL_law := fun _ h => List.mem_append_left _ (List.mem_append_left _ (List.mem_append_right _ h))
theorem inX2 : ∀ w ∈ wsX20, w ∈ lw_tbl := fun w h => wsL_law_in w (inlX2 w h)
theorem inlX3 : ∀ w ∈ wsX30, w ∈ wsL_law := fun _ h => List.mem_append_left _ (List.mem_append_left _ (List.mem_append_left _ (List.mem_append_right _ h)))
theorem inX3 : ∀ w ∈ wsX30, w ∈ lw_tbl := fun w h => wsL_law_in w (inlX3 w h)
theorem inlX4 : ∀ w ∈ wsX40, w ∈ wsL_law := fun _ h => List.mem_append_left _ (List.mem_append_left _ (List.mem_append_left _ (List.mem_append_left _ (List.mem_append_left _ (List.mem_append_right _ h)))))
theorem inX4 : ∀ w ∈ wsX40, w ∈ lw_tbl := fun w h => wsL_law_in w (inlX4 w h)
theorem inlX5 : ∀ w ∈ wsX50, w ∈ wsL_law := fun _ h => List.mem_append_left _ (List.mem_append_left _ (List.mem_append_left _ (List.mem_append_left _ (List.mem_append_right _ h))))
theorem inX5 : ∀ w ∈ wsX50, w ∈ lw_tbl := fun w h => wsL_law_in w (inlX5 w h)
theorem inJ6 : ∀ w ∈ wsJ60, w ∈ lw_tbl := by decide +kernel
theorem inJ9 : ∀ w ∈ wsJ90, w ∈ lw_tbl := by decide +kernel
end
section
theorem dX0_ofLetter_0 : decode cX0_ofLetter 0 = .ok (.iload_n 0, 1) := by decide +kernel
theorem dX0_ofLetter_1 : decode cX0_ofLetter 1 = .ok (.lookupswitch 71 #[(99, 65), (100, 67), (105, 63), (108, 59), (115, 61), (121, 69)], 59) := by decide +kernel
theorem dX0_ofLetter_60 : decode cX0_ofLetter 60 = .ok (.iconst 0, 1) := by decide +kernel
theorem dX0_ofLetter_61 : decode cX0_ofLetter 61 = .ok (.ireturn, 1) := by decide +kernel
theorem dX0_ofLetter_62 : decode cX0_ofLetter 62 = .ok (.iconst 1, 1) := by decide +kernel
theorem dX0_ofLetter_63 : decode cX0_ofLetter 63 = .ok (.ireturn, 1) := by decide +kernel
theorem dX0_ofLetter_64 : decode cX0_ofLetter 64 = .ok (.iconst 2, 1) := by decide +kernel
theorem dX0_ofLetter_65 : decode cX0_ofLetter 65 = .ok (.ireturn, 1) := by decide +kernel
theorem dX0_ofLetter_66 : decode cX0_ofLetter 66 = .ok (.iconst 3, 1) := by decide +kernel
theorem dX0_ofLetter_67 : decode cX0_ofLetter 67 = .ok (.ireturn, 1) := by decide +kernel
theorem dX0_ofLetter_68 : decode cX0_ofLetter 68 = .ok (.iconst 4, 1) := by decide +kernel
theorem dX0_ofLetter_69 : decode cX0_ofLetter 69 = .ok (.ireturn, 1) := by decide +kernel
theorem dX0_ofLetter_70 : decode cX0_ofLetter 70 = .ok (.iconst 5, 1) := by decide +kernel
theorem dX0_ofLetter_71 : decode cX0_ofLetter 71 = .ok (.ireturn, 1) := by decide +kernel
theorem dX0_ofLetter_72 : decode cX0_ofLetter 72 = .ok (.iconst (-1), 1) := by decide +kernel
theorem dX0_ofLetter_73 : decode cX0_ofLetter 73 = .ok (.ireturn, 1) := by decide +kernel
theorem dX0_entryFloor_0 : decode cX0_entryFloor 0 = .ok (.iload_n 1, 1) := by decide +kernel
theorem dX0_entryFloor_1 : decode cX0_entryFloor 1 = .ok (.bipush 10, 2) := by decide +kernel
theorem dX0_entryFloor_3 : decode cX0_entryFloor 3 = .ok (.idiv, 1) := by decide +kernel
theorem dX0_entryFloor_4 : decode cX0_entryFloor 4 = .ok (.istore_n 2, 1) := by decide +kernel
theorem dX0_entryFloor_5 : decode cX0_entryFloor 5 = .ok (.iload_n 0, 1) := by decide +kernel
theorem dX0_entryFloor_6 : decode cX0_entryFloor 6 = .ok (.lookupswitch 36 #[(3, 26), (5, 28)], 26) := by decide +kernel
theorem dX0_entryFloor_32 : decode cX0_entryFloor 32 = .ok (.iconst 0, 1) := by decide +kernel
theorem dX0_entryFloor_33 : decode cX0_entryFloor 33 = .ok (.ireturn, 1) := by decide +kernel
theorem dX0_entryFloor_34 : decode cX0_entryFloor 34 = .ok (.iconst 0, 1) := by decide +kernel
theorem dX0_entryFloor_35 : decode cX0_entryFloor 35 = .ok (.iload_n 2, 1) := by decide +kernel
theorem dX0_entryFloor_36 : decode cX0_entryFloor 36 = .ok (.iconst 1, 1) := by decide +kernel
theorem dX0_entryFloor_37 : decode cX0_entryFloor 37 = .ok (.isub, 1) := by decide +kernel
theorem dX0_entryFloor_38 : decode cX0_entryFloor 38 = .ok (.invokestatic 11, 3) := by decide +kernel
theorem dX0_entryFloor_41 : decode cX0_entryFloor 41 = .ok (.ireturn, 1) := by decide +kernel
theorem dX0_entryFloor_42 : decode cX0_entryFloor 42 = .ok (.iload_n 2, 1) := by decide +kernel
theorem dX0_entryFloor_43 : decode cX0_entryFloor 43 = .ok (.ireturn, 1) := by decide +kernel
set_option maxRecDepth 20000 in
theorem ggX0_chance_X0_strongChance : GoodIn wsX0_chance wsX0_strongChance := goodIn_r _ [8] (by decide +kernel) (by decide +kernel)
set_option maxRecDepth 20000 in
theorem gX0_chance_X0_strongChance : GoodIn wsX0_chance (va_wsS RX0 17 yX0_strongChance wsX0_strongChance) := goodIn_app (goodIn_of _ (by decide +kernel)) ggX0_chance_X0_strongChance
set_option maxRecDepth 20000 in
theorem ggX0_chance_X0_illChance : GoodIn wsX0_chance wsX0_illChance := goodIn_r _ [11, 12, 13, 3, 14] (by decide +kernel) (by decide +kernel)
set_option maxRecDepth 20000 in
theorem gX0_chance_X0_illChance : GoodIn wsX0_chance (va_wsS RX0 21 yX0_illChance wsX0_illChance) := goodIn_app (goodIn_of _ (by decide +kernel)) ggX0_chance_X0_illChance
theorem dX0_chance_0 : decode cX0_chance 0 = .ok (.iload_n 1, 1) := by decide +kernel
theorem dX0_chance_1 : decode cX0_chance 1 = .ok (.bipush 10, 2) := by decide +kernel
theorem dX0_chance_3 : decode cX0_chance 3 = .ok (.idiv, 1) := by decide +kernel
theorem dX0_chance_4 : decode cX0_chance 4 = .ok (.istore_n 2, 1) := by decide +kernel
theorem dX0_chance_5 : decode cX0_chance 5 = .ok (.iload_n 0, 1) := by decide +kernel
theorem dX0_chance_6 : decode cX0_chance 6 = .ok (.tableswitch 70 1 5 #[34, 39, 70, 44, 55], 34) := by decide +kernel
theorem dX0_chance_40 : decode cX0_chance 40 = .ok (.iload_n 2, 1) := by decide +kernel
theorem dX0_chance_41 : decode cX0_chance 41 = .ok (.invokestatic 17, 3) := by decide +kernel
theorem dX0_chance_44 : decode cX0_chance 44 = .ok (.ireturn, 1) := by decide +kernel
theorem dX0_chance_45 : decode cX0_chance 45 = .ok (.iload_n 2, 1) := by decide +kernel
theorem dX0_chance_46 : decode cX0_chance 46 = .ok (.invokestatic 21, 3) := by decide +kernel
theorem dX0_chance_49 : decode cX0_chance 49 = .ok (.ireturn, 1) := by decide +kernel
theorem dX0_chance_50 : decode cX0_chance 50 = .ok (.iconst 0, 1) := by decide +kernel
theorem dX0_chance_51 : decode cX0_chance 51 = .ok (.iload_n 2, 1) := by decide +kernel
theorem dX0_chance_52 : decode cX0_chance 52 = .ok (.invokestatic 21, 3) := by decide +kernel
theorem dX0_chance_55 : decode cX0_chance 55 = .ok (.iconst 2, 1) := by decide +kernel
theorem dX0_chance_56 : decode cX0_chance 56 = .ok (.isub, 1) := by decide +kernel
theorem dX0_chance_57 : decode cX0_chance 57 = .ok (.invokestatic 11, 3) := by decide +kernel
theorem dX0_chance_60 : decode cX0_chance 60 = .ok (.ireturn, 1) := by decide +kernel
theorem dX0_chance_61 : decode cX0_chance 61 = .ok (.iload_n 1, 1) := by decide +kernel
theorem dX0_chance_62 : decode cX0_chance 62 = .ok (.bipush 50, 2) := by decide +kernel
theorem dX0_chance_64 : decode cX0_chance 64 = .ok (.if_icmp .ge 7, 3) := by decide +kernel
theorem dX0_chance_67 : decode cX0_chance 67 = .ok (.iconst 0, 1) := by decide +kernel
theorem dX0_chance_68 : decode cX0_chance 68 = .ok (.goto 7, 3) := by decide +kernel
theorem dX0_chance_71 : decode cX0_chance 71 = .ok (.iload_n 2, 1) := by decide +kernel
theorem dX0_chance_72 : decode cX0_chance 72 = .ok (.invokestatic 17, 3) := by decide +kernel
theorem dX0_chance_75 : decode cX0_chance 75 = .ok (.ireturn, 1) := by decide +kernel
theorem dX0_chance_76 : decode cX0_chance 76 = .ok (.iload_n 2, 1) := by decide +kernel
theorem dX0_chance_77 : decode cX0_chance 77 = .ok (.ireturn, 1) := by decide +kernel
theorem dX0_climb_0 : decode cX0_climb 0 = .ok (.bipush 9, 2) := by decide +kernel
theorem dX0_climb_2 : decode cX0_climb 2 = .ok (.iload_n 1, 1) := by decide +kernel
theorem dX0_climb_3 : decode cX0_climb 3 = .ok (.bipush 12, 2) := by decide +kernel
theorem dX0_climb_5 : decode cX0_climb 5 = .ok (.idiv, 1) := by decide +kernel
theorem dX0_climb_6 : decode cX0_climb 6 = .ok (.isub, 1) := by decide +kernel
theorem dX0_climb_7 : decode cX0_climb 7 = .ok (.istore_n 2, 1) := by decide +kernel
theorem dX0_climb_8 : decode cX0_climb 8 = .ok (.iload_n 0, 1) := by decide +kernel
theorem dX0_climb_9 : decode cX0_climb 9 = .ok (.iconst 1, 1) := by decide +kernel
theorem dX0_climb_10 : decode cX0_climb 10 = .ok (.if_icmp .eq 8, 3) := by decide +kernel
theorem dX0_climb_13 : decode cX0_climb 13 = .ok (.iload_n 0, 1) := by decide +kernel
theorem dX0_climb_14 : decode cX0_climb 14 = .ok (.iconst 5, 1) := by decide +kernel
theorem dX0_climb_15 : decode cX0_climb 15 = .ok (.if_icmp .ne 14, 3) := by decide +kernel
theorem dX0_climb_18 : decode cX0_climb 18 = .ok (.bipush 9, 2) := by decide +kernel
theorem dX0_climb_20 : decode cX0_climb 20 = .ok (.iload_n 2, 1) := by decide +kernel
theorem dX0_climb_21 : decode cX0_climb 21 = .ok (.iconst 2, 1) := by decide +kernel
theorem dX0_climb_22 : decode cX0_climb 22 = .ok (.iadd, 1) := by decide +kernel
theorem dX0_climb_23 : decode cX0_climb 23 = .ok (.invokestatic 24, 3) := by decide +kernel
theorem dX0_climb_26 : decode cX0_climb 26 = .ok (.goto 4, 3) := by decide +kernel
theorem dX0_climb_29 : decode cX0_climb 29 = .ok (.iload_n 2, 1) := by decide +kernel
theorem dX0_climb_30 : decode cX0_climb 30 = .ok (.ireturn, 1) := by decide +kernel
theorem dX0_strongChance_0 : decode cX0_strongChance 0 = .ok (.iload_n 0, 1) := by decide +kernel
theorem dX0_strongChance_1 : decode cX0_strongChance 1 = .ok (.iconst 2, 1) := by decide +kernel
theorem dX0_strongChance_2 : decode cX0_strongChance 2 = .ok (.idiv, 1) := by decide +kernel
theorem dX0_strongChance_3 : decode cX0_strongChance 3 = .ok (.ireturn, 1) := by decide +kernel
theorem dX0_illChance_0 : decode cX0_illChance 0 = .ok (.bipush 10, 2) := by decide +kernel
theorem dX0_illChance_2 : decode cX0_illChance 2 = .ok (.iload_n 0, 1) := by decide +kernel
theorem dX0_illChance_3 : decode cX0_illChance 3 = .ok (.iconst 3, 1) := by decide +kernel
theorem dX0_illChance_4 : decode cX0_illChance 4 = .ok (.iadd, 1) := by decide +kernel
theorem dX0_illChance_5 : decode cX0_illChance 5 = .ok (.invokestatic 24, 3) := by decide +kernel
theorem dX0_illChance_8 : decode cX0_illChance 8 = .ok (.ireturn, 1) := by decide +kernel
theorem dX1_init_0 : decode cX1_init 0 = .ok (.aload_n 0, 1) := by decide +kernel
theorem dX1_init_1 : decode cX1_init 1 = .ok (.invokespecial 3, 3) := by decide +kernel
theorem dX1_init_4 : decode cX1_init 4 = .ok (.aload_n 0, 1) := by decide +kernel
theorem dX1_init_5 : decode cX1_init 5 = .ok (.bipush 9, 2) := by decide +kernel
theorem dX1_init_7 : decode cX1_init 7 = .ok (.newarray .long, 2) := by decide +kernel
theorem dX1_init_9 : decode cX1_init 9 = .ok (.putfield 9, 3) := by decide +kernel
theorem dX1_init_12 : decode cX1_init 12 = .ok (.return_, 1) := by decide +kernel
set_option maxRecDepth 20000 in
theorem ggX1_reckon_X1_clear : GoodIn wsX1_reckon wsX1_clear := goodIn_r _ [14, 15, 9, 74, 75, 76] (by decide +kernel) (by decide +kernel)
set_option maxRecDepth 20000 in
theorem gX1_reckon_X1_clear : GoodIn wsX1_reckon (wsV RX1 19 RX1 yX1_clear wsX1_clear) := goodIn_app (goodIn_of _ (by decide +kernel)) ggX1_reckon_X1_clear
set_option maxRecDepth 20000 in
theorem ggX1_reckon_X3_isAlive : GoodIn wsX1_reckon wsX3_isAlive := goodIn_r _ [20, 21, 22, 67, 68, 69, 70, 71, 72, 73] (by decide +kernel) (by decide +kernel)
set_option maxRecDepth 20000 in
theorem gX1_reckon_X3_isAlive : GoodIn wsX1_reckon (wsV RX1 22 RX3 yX3_isAlive wsX3_isAlive) := goodIn_app (goodIn_of _ (by decide +kernel)) ggX1_reckon_X3_isAlive
set_option maxRecDepth 20000 in
theorem ggX1_reckon_X1_survival : GoodIn wsX1_reckon wsX1_survival := goodIn_r _ [25, 26, 27, 28, 19, 29, 30, 31, 32, 33, 34, 35, 36, 37, 6, 38, 39, 40, 41, 42, 43, 5, 7, 44, 45, 46, 47, 48, 49, 50, 67, 68, 69, 70, 71, 72, 73] (by decide +kernel) (by decide +kernel)
set_option maxRecDepth 20000 in
theorem gX1_reckon_X1_survival : GoodIn wsX1_reckon (va_wsS RX1 32 yX1_survival wsX1_survival) := goodIn_app (goodIn_of _ (by decide +kernel)) ggX1_reckon_X1_survival
set_option maxRecDepth 20000 in
theorem ggX1_reckon_X1_addOneAbove : GoodIn wsX1_reckon wsX1_addOneAbove := goodIn_r _ [54, 15, 9, 74, 75, 76] (by decide +kernel) (by decide +kernel)
set_option maxRecDepth 20000 in
theorem gX1_reckon_X1_addOneAbove : GoodIn wsX1_reckon (wsV RX1 36 RX1 yX1_addOneAbove wsX1_addOneAbove) := goodIn_app (goodIn_of _ (by decide +kernel)) ggX1_reckon_X1_addOneAbove
set_option maxRecDepth 20000 in
theorem ggX1_reckon_X3_staysDown : GoodIn wsX1_reckon wsX3_staysDown := goodIn_r _ [58, 30, 22, 67, 68, 69, 70, 71, 72, 73] (by decide +kernel) (by decide +kernel)
set_option maxRecDepth 20000 in
theorem gX1_reckon_X3_staysDown : GoodIn wsX1_reckon (wsV RX1 46 RX3 yX3_staysDown wsX3_staysDown) := goodIn_app (goodIn_of _ (by decide +kernel)) ggX1_reckon_X3_staysDown
set_option maxRecDepth 20000 in
theorem ggX1_reckon_X1_atLeast : GoodIn wsX1_reckon wsX1_atLeast := goodIn_r _ [62, 15, 74, 75, 76] (by decide +kernel) (by decide +kernel)
set_option maxRecDepth 20000 in
theorem gX1_reckon_X1_atLeast : GoodIn wsX1_reckon (wsV RX1 49 RX1 yX1_atLeast wsX1_atLeast) := goodIn_app (goodIn_of _ (by decide +kernel)) ggX1_reckon_X1_atLeast
set_option maxRecDepth 20000 in
theorem ggX1_reckon_X1_shorten : GoodIn wsX1_reckon wsX1_shorten := goodIn_r _ [66, 9, 8, 74, 75, 76] (by decide +kernel) (by decide +kernel)
set_option maxRecDepth 20000 in
theorem gX1_reckon_X1_shorten : GoodIn wsX1_reckon (wsV RX1 60 RX1 yX1_shorten wsX1_shorten) := goodIn_app (goodIn_of _ (by decide +kernel)) ggX1_reckon_X1_shorten
theorem dX1_reckon_0 : decode cX1_reckon 0 = .ok (.iload 4, 2) := by decide +kernel
theorem dX1_reckon_2 : decode cX1_reckon 2 = .ok (.iconst 1, 1) := by decide +kernel
theorem dX1_reckon_3 : decode cX1_reckon 3 = .ok (.if_icmp .ne 9, 3) := by decide +kernel
theorem dX1_reckon_6 : decode cX1_reckon 6 = .ok (.ldc2_w 15, 3) := by decide +kernel
theorem dX1_reckon_9 : decode cX1_reckon 9 = .ok (.goto 6, 3) := by decide +kernel
theorem dX1_reckon_12 : decode cX1_reckon 12 = .ok (.ldc2_w 17, 3) := by decide +kernel
theorem dX1_reckon_15 : decode cX1_reckon 15 = .ok (.lstore 5, 2) := by decide +kernel
theorem dX1_reckon_17 : decode cX1_reckon 17 = .ok (.aload_n 0, 1) := by decide +kernel
theorem dX1_reckon_18 : decode cX1_reckon 18 = .ok (.invokevirtual 19, 3) := by decide +kernel
theorem dX1_reckon_21 : decode cX1_reckon 21 = .ok (.iconst 0, 1) := by decide +kernel
theorem dX1_reckon_22 : decode cX1_reckon 22 = .ok (.istore 7, 2) := by decide +kernel
theorem dX1_reckon_24 : decode cX1_reckon 24 = .ok (.iload 7, 2) := by decide +kernel
theorem dX1_reckon_26 : decode cX1_reckon 26 = .ok (.bipush 8, 2) := by decide +kernel
theorem dX1_reckon_28 : decode cX1_reckon 28 = .ok (.if_icmp .ge 48, 3) := by decide +kernel
theorem dX1_reckon_31 : decode cX1_reckon 31 = .ok (.aload_n 1, 1) := by decide +kernel
theorem dX1_reckon_32 : decode cX1_reckon 32 = .ok (.iload 7, 2) := by decide +kernel
theorem dX1_reckon_34 : decode cX1_reckon 34 = .ok (.invokevirtual 22, 3) := by decide +kernel
theorem dX1_reckon_37 : decode cX1_reckon 37 = .ok (.ifCond .eq 33, 3) := by decide +kernel
theorem dX1_reckon_40 : decode cX1_reckon 40 = .ok (.aload_n 1, 1) := by decide +kernel
theorem dX1_reckon_41 : decode cX1_reckon 41 = .ok (.getfield 28, 3) := by decide +kernel
theorem dX1_reckon_44 : decode cX1_reckon 44 = .ok (.iload 7, 2) := by decide +kernel
theorem dX1_reckon_46 : decode cX1_reckon 46 = .ok (.iaload, 1) := by decide +kernel
theorem dX1_reckon_47 : decode cX1_reckon 47 = .ok (.aload_n 1, 1) := by decide +kernel
theorem dX1_reckon_48 : decode cX1_reckon 48 = .ok (.getfield 28, 3) := by decide +kernel
theorem dX1_reckon_51 : decode cX1_reckon 51 = .ok (.iload_n 2, 1) := by decide +kernel
theorem dX1_reckon_52 : decode cX1_reckon 52 = .ok (.iaload, 1) := by decide +kernel
theorem dX1_reckon_53 : decode cX1_reckon 53 = .ok (.if_icmp .le 17, 3) := by decide +kernel
theorem dX1_reckon_56 : decode cX1_reckon 56 = .ok (.aload_n 0, 1) := by decide +kernel
theorem dX1_reckon_57 : decode cX1_reckon 57 = .ok (.aload_n 1, 1) := by decide +kernel
theorem dX1_reckon_58 : decode cX1_reckon 58 = .ok (.iload 7, 2) := by decide +kernel
theorem dX1_reckon_60 : decode cX1_reckon 60 = .ok (.iload 4, 2) := by decide +kernel
theorem dX1_reckon_62 : decode cX1_reckon 62 = .ok (.invokestatic 32, 3) := by decide +kernel
theorem dX1_reckon_65 : decode cX1_reckon 65 = .ok (.lload 5, 2) := by decide +kernel
theorem dX1_reckon_67 : decode cX1_reckon 67 = .ok (.invokevirtual 36, 3) := by decide +kernel
theorem dX1_reckon_70 : decode cX1_reckon 70 = .ok (.iinc 7 1, 3) := by decide +kernel
theorem dX1_reckon_73 : decode cX1_reckon 73 = .ok (.goto (-49), 3) := by decide +kernel
theorem dX1_reckon_76 : decode cX1_reckon 76 = .ok (.iconst 0, 1) := by decide +kernel
theorem dX1_reckon_77 : decode cX1_reckon 77 = .ok (.iload_n 3, 1) := by decide +kernel
theorem dX1_reckon_78 : decode cX1_reckon 78 = .ok (.aload_n 1, 1) := by decide +kernel
theorem dX1_reckon_79 : decode cX1_reckon 79 = .ok (.getfield 28, 3) := by decide +kernel
theorem dX1_reckon_82 : decode cX1_reckon 82 = .ok (.iload_n 2, 1) := by decide +kernel
theorem dX1_reckon_83 : decode cX1_reckon 83 = .ok (.iaload, 1) := by decide +kernel
theorem dX1_reckon_84 : decode cX1_reckon 84 = .ok (.isub, 1) := by decide +kernel
theorem dX1_reckon_85 : decode cX1_reckon 85 = .ok (.invokestatic 40, 3) := by decide +kernel
theorem dX1_reckon_88 : decode cX1_reckon 88 = .ok (.istore 7, 2) := by decide +kernel
theorem dX1_reckon_90 : decode cX1_reckon 90 = .ok (.aload_n 0, 1) := by decide +kernel
theorem dX1_reckon_91 : decode cX1_reckon 91 = .ok (.iload 7, 2) := by decide +kernel
theorem dX1_reckon_93 : decode cX1_reckon 93 = .ok (.ifCond .le 15, 3) := by decide +kernel
theorem dX1_reckon_96 : decode cX1_reckon 96 = .ok (.aload_n 1, 1) := by decide +kernel
theorem dX1_reckon_97 : decode cX1_reckon 97 = .ok (.iload_n 2, 1) := by decide +kernel
theorem dX1_reckon_98 : decode cX1_reckon 98 = .ok (.invokevirtual 46, 3) := by decide +kernel
theorem dX1_reckon_101 : decode cX1_reckon 101 = .ok (.ifCond .eq 7, 3) := by decide +kernel
theorem dX1_reckon_104 : decode cX1_reckon 104 = .ok (.lconst 0, 1) := by decide +kernel
theorem dX1_reckon_105 : decode cX1_reckon 105 = .ok (.goto 9, 3) := by decide +kernel
theorem dX1_reckon_108 : decode cX1_reckon 108 = .ok (.aload_n 0, 1) := by decide +kernel
theorem dX1_reckon_109 : decode cX1_reckon 109 = .ok (.iload 7, 2) := by decide +kernel
theorem dX1_reckon_111 : decode cX1_reckon 111 = .ok (.invokevirtual 49, 3) := by decide +kernel
theorem dX1_reckon_114 : decode cX1_reckon 114 = .ok (.putfield 53, 3) := by decide +kernel
theorem dX1_reckon_117 : decode cX1_reckon 117 = .ok (.aload_n 0, 1) := by decide +kernel
theorem dX1_reckon_118 : decode cX1_reckon 118 = .ok (.dup, 1) := by decide +kernel
theorem dX1_reckon_119 : decode cX1_reckon 119 = .ok (.getfield 53, 3) := by decide +kernel
theorem dX1_reckon_122 : decode cX1_reckon 122 = .ok (.aload_n 1, 1) := by decide +kernel
theorem dX1_reckon_123 : decode cX1_reckon 123 = .ok (.iload_n 2, 1) := by decide +kernel
theorem dX1_reckon_124 : decode cX1_reckon 124 = .ok (.iload 4, 2) := by decide +kernel
theorem dX1_reckon_126 : decode cX1_reckon 126 = .ok (.invokestatic 32, 3) := by decide +kernel
theorem dX1_reckon_129 : decode cX1_reckon 129 = .ok (.lmul, 1) := by decide +kernel
theorem dX1_reckon_130 : decode cX1_reckon 130 = .ok (.putfield 53, 3) := by decide +kernel
theorem dX1_reckon_133 : decode cX1_reckon 133 = .ok (.aload_n 0, 1) := by decide +kernel
theorem dX1_reckon_134 : decode cX1_reckon 134 = .ok (.dup, 1) := by decide +kernel
theorem dX1_reckon_135 : decode cX1_reckon 135 = .ok (.getfield 57, 3) := by decide +kernel
theorem dX1_reckon_138 : decode cX1_reckon 138 = .ok (.lload 5, 2) := by decide +kernel
theorem dX1_reckon_140 : decode cX1_reckon 140 = .ok (.lmul, 1) := by decide +kernel
theorem dX1_reckon_141 : decode cX1_reckon 141 = .ok (.putfield 57, 3) := by decide +kernel
theorem dX1_reckon_144 : decode cX1_reckon 144 = .ok (.aload_n 0, 1) := by decide +kernel
theorem dX1_reckon_145 : decode cX1_reckon 145 = .ok (.invokevirtual 60, 3) := by decide +kernel
theorem dX1_reckon_148 : decode cX1_reckon 148 = .ok (.return_, 1) := by decide +kernel
theorem dX1_clear_0 : decode cX1_clear 0 = .ok (.iconst 0, 1) := by decide +kernel
theorem dX1_clear_1 : decode cX1_clear 1 = .ok (.istore_n 1, 1) := by decide +kernel
theorem dX1_clear_2 : decode cX1_clear 2 = .ok (.iload_n 1, 1) := by decide +kernel
theorem dX1_clear_3 : decode cX1_clear 3 = .ok (.bipush 8, 2) := by decide +kernel
theorem dX1_clear_5 : decode cX1_clear 5 = .ok (.if_icmp .gt 16, 3) := by decide +kernel
theorem dX1_clear_8 : decode cX1_clear 8 = .ok (.aload_n 0, 1) := by decide +kernel
theorem dX1_clear_9 : decode cX1_clear 9 = .ok (.getfield 9, 3) := by decide +kernel
theorem dX1_clear_12 : decode cX1_clear 12 = .ok (.iload_n 1, 1) := by decide +kernel
theorem dX1_clear_13 : decode cX1_clear 13 = .ok (.lconst 0, 1) := by decide +kernel
theorem dX1_clear_14 : decode cX1_clear 14 = .ok (.lastore, 1) := by decide +kernel
theorem dX1_clear_15 : decode cX1_clear 15 = .ok (.iinc 1 1, 3) := by decide +kernel
theorem dX1_clear_18 : decode cX1_clear 18 = .ok (.goto (-16), 3) := by decide +kernel
theorem dX1_clear_21 : decode cX1_clear 21 = .ok (.aload_n 0, 1) := by decide +kernel
theorem dX1_clear_22 : decode cX1_clear 22 = .ok (.getfield 9, 3) := by decide +kernel
theorem dX1_clear_25 : decode cX1_clear 25 = .ok (.iconst 0, 1) := by decide +kernel
theorem dX1_clear_26 : decode cX1_clear 26 = .ok (.lconst 1, 1) := by decide +kernel
theorem dX1_clear_27 : decode cX1_clear 27 = .ok (.lastore, 1) := by decide +kernel
theorem dX1_clear_28 : decode cX1_clear 28 = .ok (.aload_n 0, 1) := by decide +kernel
theorem dX1_clear_29 : decode cX1_clear 29 = .ok (.lconst 1, 1) := by decide +kernel
theorem dX1_clear_30 : decode cX1_clear 30 = .ok (.putfield 57, 3) := by decide +kernel
theorem dX1_clear_33 : decode cX1_clear 33 = .ok (.return_, 1) := by decide +kernel
set_option maxRecDepth 20000 in
theorem ggX1_survival_X3_chanceAfter : GoodIn wsX1_survival wsX3_chanceAfter := goodIn_r _ [5, 6, 7, 8, 9, 4, 10, 11, 12, 13, 14, 15, 16, 17, 18, 19, 20, 21, 22, 23, 24, 25, 26, 27, 28, 29, 30, 31, 32, 33, 34, 35, 36] (by decide +kernel) (by decide +kernel)
set_option maxRecDepth 20000 in
theorem gX1_survival_X3_chanceAfter : GoodIn wsX1_survival (wsV RX1 63 RX3 yX3_chanceAfter wsX3_chanceAfter) := goodIn_app (goodIn_of _ (by decide +kernel)) ggX1_survival_X3_chanceAfter
theorem dX1_survival_0 : decode cX1_survival 0 = .ok (.lconst 1, 1) := by decide +kernel
theorem dX1_survival_1 : decode cX1_survival 1 = .ok (.lstore_n 3, 1) := by decide +kernel
theorem dX1_survival_2 : decode cX1_survival 2 = .ok (.iconst 0, 1) := by decide +kernel
theorem dX1_survival_3 : decode cX1_survival 3 = .ok (.istore 5, 2) := by decide +kernel
theorem dX1_survival_5 : decode cX1_survival 5 = .ok (.iload 5, 2) := by decide +kernel
theorem dX1_survival_7 : decode cX1_survival 7 = .ok (.iload_n 2, 1) := by decide +kernel
theorem dX1_survival_8 : decode cX1_survival 8 = .ok (.if_icmp .ge 23, 3) := by decide +kernel
theorem dX1_survival_11 : decode cX1_survival 11 = .ok (.lload_n 3, 1) := by decide +kernel
theorem dX1_survival_12 : decode cX1_survival 12 = .ok (.bipush 10, 2) := by decide +kernel
theorem dX1_survival_14 : decode cX1_survival 14 = .ok (.aload_n 0, 1) := by decide +kernel
theorem dX1_survival_15 : decode cX1_survival 15 = .ok (.iload_n 1, 1) := by decide +kernel
theorem dX1_survival_16 : decode cX1_survival 16 = .ok (.iload 5, 2) := by decide +kernel
theorem dX1_survival_18 : decode cX1_survival 18 = .ok (.invokevirtual 63, 3) := by decide +kernel
theorem dX1_survival_21 : decode cX1_survival 21 = .ok (.isub, 1) := by decide +kernel
theorem dX1_survival_22 : decode cX1_survival 22 = .ok (.i2l, 1) := by decide +kernel
theorem dX1_survival_23 : decode cX1_survival 23 = .ok (.lmul, 1) := by decide +kernel
theorem dX1_survival_24 : decode cX1_survival 24 = .ok (.lstore_n 3, 1) := by decide +kernel
theorem dX1_survival_25 : decode cX1_survival 25 = .ok (.iinc 5 1, 3) := by decide +kernel
theorem dX1_survival_28 : decode cX1_survival 28 = .ok (.goto (-23), 3) := by decide +kernel
theorem dX1_survival_31 : decode cX1_survival 31 = .ok (.lload_n 3, 1) := by decide +kernel
theorem dX1_survival_32 : decode cX1_survival 32 = .ok (.lreturn, 1) := by decide +kernel
theorem dX1_addOneAbove_0 : decode cX1_addOneAbove 0 = .ok (.bipush 8, 2) := by decide +kernel
theorem dX1_addOneAbove_2 : decode cX1_addOneAbove 2 = .ok (.istore 5, 2) := by decide +kernel
theorem dX1_addOneAbove_4 : decode cX1_addOneAbove 4 = .ok (.iload 5, 2) := by decide +kernel
theorem dX1_addOneAbove_6 : decode cX1_addOneAbove 6 = .ok (.ifCond .le 39, 3) := by decide +kernel
theorem dX1_addOneAbove_9 : decode cX1_addOneAbove 9 = .ok (.aload_n 0, 1) := by decide +kernel
theorem dX1_addOneAbove_10 : decode cX1_addOneAbove 10 = .ok (.getfield 9, 3) := by decide +kernel
theorem dX1_addOneAbove_13 : decode cX1_addOneAbove 13 = .ok (.iload 5, 2) := by decide +kernel
theorem dX1_addOneAbove_15 : decode cX1_addOneAbove 15 = .ok (.aload_n 0, 1) := by decide +kernel
theorem dX1_addOneAbove_16 : decode cX1_addOneAbove 16 = .ok (.getfield 9, 3) := by decide +kernel
theorem dX1_addOneAbove_19 : decode cX1_addOneAbove 19 = .ok (.iload 5, 2) := by decide +kernel
theorem dX1_addOneAbove_21 : decode cX1_addOneAbove 21 = .ok (.laload, 1) := by decide +kernel
theorem dX1_addOneAbove_22 : decode cX1_addOneAbove 22 = .ok (.lload_n 1, 1) := by decide +kernel
theorem dX1_addOneAbove_23 : decode cX1_addOneAbove 23 = .ok (.lmul, 1) := by decide +kernel
theorem dX1_addOneAbove_24 : decode cX1_addOneAbove 24 = .ok (.aload_n 0, 1) := by decide +kernel
theorem dX1_addOneAbove_25 : decode cX1_addOneAbove 25 = .ok (.getfield 9, 3) := by decide +kernel
theorem dX1_addOneAbove_28 : decode cX1_addOneAbove 28 = .ok (.iload 5, 2) := by decide +kernel
theorem dX1_addOneAbove_30 : decode cX1_addOneAbove 30 = .ok (.iconst 1, 1) := by decide +kernel
theorem dX1_addOneAbove_31 : decode cX1_addOneAbove 31 = .ok (.isub, 1) := by decide +kernel
theorem dX1_addOneAbove_32 : decode cX1_addOneAbove 32 = .ok (.laload, 1) := by decide +kernel
theorem dX1_addOneAbove_33 : decode cX1_addOneAbove 33 = .ok (.lload_n 3, 1) := by decide +kernel
theorem dX1_addOneAbove_34 : decode cX1_addOneAbove 34 = .ok (.lload_n 1, 1) := by decide +kernel
theorem dX1_addOneAbove_35 : decode cX1_addOneAbove 35 = .ok (.lsub, 1) := by decide +kernel
theorem dX1_addOneAbove_36 : decode cX1_addOneAbove 36 = .ok (.lmul, 1) := by decide +kernel
theorem dX1_addOneAbove_37 : decode cX1_addOneAbove 37 = .ok (.ladd, 1) := by decide +kernel
theorem dX1_addOneAbove_38 : decode cX1_addOneAbove 38 = .ok (.lastore, 1) := by decide +kernel
theorem dX1_addOneAbove_39 : decode cX1_addOneAbove 39 = .ok (.iinc 5 (-1), 3) := by decide +kernel
theorem dX1_addOneAbove_42 : decode cX1_addOneAbove 42 = .ok (.goto (-38), 3) := by decide +kernel
theorem dX1_addOneAbove_45 : decode cX1_addOneAbove 45 = .ok (.aload_n 0, 1) := by decide +kernel
theorem dX1_addOneAbove_46 : decode cX1_addOneAbove 46 = .ok (.getfield 9, 3) := by decide +kernel
theorem dX1_addOneAbove_49 : decode cX1_addOneAbove 49 = .ok (.iconst 0, 1) := by decide +kernel
theorem dX1_addOneAbove_50 : decode cX1_addOneAbove 50 = .ok (.dup2, 1) := by decide +kernel
theorem dX1_addOneAbove_51 : decode cX1_addOneAbove 51 = .ok (.laload, 1) := by decide +kernel
theorem dX1_addOneAbove_52 : decode cX1_addOneAbove 52 = .ok (.lload_n 1, 1) := by decide +kernel
theorem dX1_addOneAbove_53 : decode cX1_addOneAbove 53 = .ok (.lmul, 1) := by decide +kernel
theorem dX1_addOneAbove_54 : decode cX1_addOneAbove 54 = .ok (.lastore, 1) := by decide +kernel
theorem dX1_addOneAbove_55 : decode cX1_addOneAbove 55 = .ok (.aload_n 0, 1) := by decide +kernel
theorem dX1_addOneAbove_56 : decode cX1_addOneAbove 56 = .ok (.dup, 1) := by decide +kernel
theorem dX1_addOneAbove_57 : decode cX1_addOneAbove 57 = .ok (.getfield 57, 3) := by decide +kernel
theorem dX1_addOneAbove_60 : decode cX1_addOneAbove 60 = .ok (.lload_n 3, 1) := by decide +kernel
theorem dX1_addOneAbove_61 : decode cX1_addOneAbove 61 = .ok (.lmul, 1) := by decide +kernel
theorem dX1_addOneAbove_62 : decode cX1_addOneAbove 62 = .ok (.putfield 57, 3) := by decide +kernel
theorem dX1_addOneAbove_65 : decode cX1_addOneAbove 65 = .ok (.return_, 1) := by decide +kernel
theorem dX1_atLeast_0 : decode cX1_atLeast 0 = .ok (.lconst 0, 1) := by decide +kernel
theorem dX1_atLeast_1 : decode cX1_atLeast 1 = .ok (.lstore_n 2, 1) := by decide +kernel
theorem dX1_atLeast_2 : decode cX1_atLeast 2 = .ok (.iload_n 1, 1) := by decide +kernel
theorem dX1_atLeast_3 : decode cX1_atLeast 3 = .ok (.istore 4, 2) := by decide +kernel
theorem dX1_atLeast_5 : decode cX1_atLeast 5 = .ok (.iload 4, 2) := by decide +kernel
theorem dX1_atLeast_7 : decode cX1_atLeast 7 = .ok (.ifCond .lt 26, 3) := by decide +kernel
theorem dX1_atLeast_10 : decode cX1_atLeast 10 = .ok (.iload 4, 2) := by decide +kernel
theorem dX1_atLeast_12 : decode cX1_atLeast 12 = .ok (.bipush 8, 2) := by decide +kernel
theorem dX1_atLeast_14 : decode cX1_atLeast 14 = .ok (.if_icmp .gt 19, 3) := by decide +kernel
theorem dX1_atLeast_17 : decode cX1_atLeast 17 = .ok (.lload_n 2, 1) := by decide +kernel
theorem dX1_atLeast_18 : decode cX1_atLeast 18 = .ok (.aload_n 0, 1) := by decide +kernel
theorem dX1_atLeast_19 : decode cX1_atLeast 19 = .ok (.getfield 9, 3) := by decide +kernel
theorem dX1_atLeast_22 : decode cX1_atLeast 22 = .ok (.iload 4, 2) := by decide +kernel
theorem dX1_atLeast_24 : decode cX1_atLeast 24 = .ok (.laload, 1) := by decide +kernel
theorem dX1_atLeast_25 : decode cX1_atLeast 25 = .ok (.ladd, 1) := by decide +kernel
theorem dX1_atLeast_26 : decode cX1_atLeast 26 = .ok (.lstore_n 2, 1) := by decide +kernel
theorem dX1_atLeast_27 : decode cX1_atLeast 27 = .ok (.iinc 4 1, 3) := by decide +kernel
theorem dX1_atLeast_30 : decode cX1_atLeast 30 = .ok (.goto (-25), 3) := by decide +kernel
theorem dX1_atLeast_33 : decode cX1_atLeast 33 = .ok (.lload_n 2, 1) := by decide +kernel
theorem dX1_atLeast_34 : decode cX1_atLeast 34 = .ok (.lreturn, 1) := by decide +kernel
theorem dX1_shorten_0 : decode cX1_shorten 0 = .ok (.aload_n 0, 1) := by decide +kernel
theorem dX1_shorten_1 : decode cX1_shorten 1 = .ok (.getfield 57, 3) := by decide +kernel
theorem dX1_shorten_4 : decode cX1_shorten 4 = .ok (.lstore_n 1, 1) := by decide +kernel
theorem dX1_shorten_5 : decode cX1_shorten 5 = .ok (.aload_n 0, 1) := by decide +kernel
theorem dX1_shorten_6 : decode cX1_shorten 6 = .ok (.getfield 53, 3) := by decide +kernel
theorem dX1_shorten_9 : decode cX1_shorten 9 = .ok (.lstore_n 3, 1) := by decide +kernel
theorem dX1_shorten_10 : decode cX1_shorten 10 = .ok (.iconst 0, 1) := by decide +kernel
theorem dX1_shorten_11 : decode cX1_shorten 11 = .ok (.istore 5, 2) := by decide +kernel
theorem dX1_shorten_13 : decode cX1_shorten 13 = .ok (.iload 5, 2) := by decide +kernel
theorem dX1_shorten_15 : decode cX1_shorten 15 = .ok (.sipush 200, 3) := by decide +kernel
theorem dX1_shorten_18 : decode cX1_shorten 18 = .ok (.if_icmp .ge 25, 3) := by decide +kernel
theorem dX1_shorten_21 : decode cX1_shorten 21 = .ok (.lload_n 3, 1) := by decide +kernel
theorem dX1_shorten_22 : decode cX1_shorten 22 = .ok (.lconst 0, 1) := by decide +kernel
theorem dX1_shorten_23 : decode cX1_shorten 23 = .ok (.lcmp, 1) := by decide +kernel
theorem dX1_shorten_24 : decode cX1_shorten 24 = .ok (.ifCond .eq 19, 3) := by decide +kernel
theorem dX1_shorten_27 : decode cX1_shorten 27 = .ok (.lload_n 1, 1) := by decide +kernel
theorem dX1_shorten_28 : decode cX1_shorten 28 = .ok (.lload_n 3, 1) := by decide +kernel
theorem dX1_shorten_29 : decode cX1_shorten 29 = .ok (.lrem, 1) := by decide +kernel
theorem dX1_shorten_30 : decode cX1_shorten 30 = .ok (.lstore 6, 2) := by decide +kernel
theorem dX1_shorten_32 : decode cX1_shorten 32 = .ok (.lload_n 3, 1) := by decide +kernel
theorem dX1_shorten_33 : decode cX1_shorten 33 = .ok (.lstore_n 1, 1) := by decide +kernel
theorem dX1_shorten_34 : decode cX1_shorten 34 = .ok (.lload 6, 2) := by decide +kernel
theorem dX1_shorten_36 : decode cX1_shorten 36 = .ok (.lstore_n 3, 1) := by decide +kernel
theorem dX1_shorten_37 : decode cX1_shorten 37 = .ok (.iinc 5 1, 3) := by decide +kernel
theorem dX1_shorten_40 : decode cX1_shorten 40 = .ok (.goto (-27), 3) := by decide +kernel
theorem dX1_shorten_43 : decode cX1_shorten 43 = .ok (.lload_n 1, 1) := by decide +kernel
theorem dX1_shorten_44 : decode cX1_shorten 44 = .ok (.lconst 1, 1) := by decide +kernel
theorem dX1_shorten_45 : decode cX1_shorten 45 = .ok (.lcmp, 1) := by decide +kernel
theorem dX1_shorten_46 : decode cX1_shorten 46 = .ok (.ifCond .le 23, 3) := by decide +kernel
theorem dX1_shorten_49 : decode cX1_shorten 49 = .ok (.aload_n 0, 1) := by decide +kernel
theorem dX1_shorten_50 : decode cX1_shorten 50 = .ok (.dup, 1) := by decide +kernel
theorem dX1_shorten_51 : decode cX1_shorten 51 = .ok (.getfield 53, 3) := by decide +kernel
theorem dX1_shorten_54 : decode cX1_shorten 54 = .ok (.lload_n 1, 1) := by decide +kernel
theorem dX1_shorten_55 : decode cX1_shorten 55 = .ok (.ldiv, 1) := by decide +kernel
theorem dX1_shorten_56 : decode cX1_shorten 56 = .ok (.putfield 53, 3) := by decide +kernel
theorem dX1_shorten_59 : decode cX1_shorten 59 = .ok (.aload_n 0, 1) := by decide +kernel
theorem dX1_shorten_60 : decode cX1_shorten 60 = .ok (.dup, 1) := by decide +kernel
theorem dX1_shorten_61 : decode cX1_shorten 61 = .ok (.getfield 57, 3) := by decide +kernel
theorem dX1_shorten_64 : decode cX1_shorten 64 = .ok (.lload_n 1, 1) := by decide +kernel
theorem dX1_shorten_65 : decode cX1_shorten 65 = .ok (.ldiv, 1) := by decide +kernel
theorem dX1_shorten_66 : decode cX1_shorten 66 = .ok (.putfield 57, 3) := by decide +kernel
theorem dX1_shorten_69 : decode cX1_shorten 69 = .ok (.return_, 1) := by decide +kernel
theorem dX2_init_0 : decode cX2_init 0 = .ok (.aload_n 0, 1) := by decide +kernel
theorem dX2_init_1 : decode cX2_init 1 = .ok (.invokespecial 3, 3) := by decide +kernel
theorem dX2_init_4 : decode cX2_init 4 = .ok (.aload_n 0, 1) := by decide +kernel
theorem dX2_init_5 : decode cX2_init 5 = .ok (.bipush 80, 2) := by decide +kernel
theorem dX2_init_7 : decode cX2_init 7 = .ok (.newarray .int, 2) := by decide +kernel
theorem dX2_init_9 : decode cX2_init 9 = .ok (.putfield 9, 3) := by decide +kernel
theorem dX2_init_12 : decode cX2_init 12 = .ok (.return_, 1) := by decide +kernel
theorem dX2_isFull_0 : decode cX2_isFull 0 = .ok (.aload_n 0, 1) := by decide +kernel
theorem dX2_isFull_1 : decode cX2_isFull 1 = .ok (.getfield 15, 3) := by decide +kernel
theorem dX2_isFull_4 : decode cX2_isFull 4 = .ok (.bipush 80, 2) := by decide +kernel
theorem dX2_isFull_6 : decode cX2_isFull 6 = .ok (.if_icmp .lt 7, 3) := by decide +kernel
theorem dX2_isFull_9 : decode cX2_isFull 9 = .ok (.iconst 1, 1) := by decide +kernel
theorem dX2_isFull_10 : decode cX2_isFull 10 = .ok (.goto 4, 3) := by decide +kernel
theorem dX2_isFull_13 : decode cX2_isFull 13 = .ok (.iconst 0, 1) := by decide +kernel
theorem dX2_isFull_14 : decode cX2_isFull 14 = .ok (.ireturn, 1) := by decide +kernel
theorem dX2_add_0 : decode cX2_add 0 = .ok (.aload_n 0, 1) := by decide +kernel
theorem dX2_add_1 : decode cX2_add 1 = .ok (.getfield 15, 3) := by decide +kernel
theorem dX2_add_4 : decode cX2_add 4 = .ok (.ifCond .lt 32, 3) := by decide +kernel
theorem dX2_add_7 : decode cX2_add 7 = .ok (.aload_n 0, 1) := by decide +kernel
theorem dX2_add_8 : decode cX2_add 8 = .ok (.getfield 15, 3) := by decide +kernel
theorem dX2_add_11 : decode cX2_add 11 = .ok (.bipush 80, 2) := by decide +kernel
theorem dX2_add_13 : decode cX2_add 13 = .ok (.if_icmp .ge 23, 3) := by decide +kernel
theorem dX2_add_16 : decode cX2_add 16 = .ok (.aload_n 0, 1) := by decide +kernel
theorem dX2_add_17 : decode cX2_add 17 = .ok (.getfield 9, 3) := by decide +kernel
theorem dX2_add_20 : decode cX2_add 20 = .ok (.aload_n 0, 1) := by decide +kernel
theorem dX2_add_21 : decode cX2_add 21 = .ok (.getfield 15, 3) := by decide +kernel
theorem dX2_add_24 : decode cX2_add 24 = .ok (.iload_n 1, 1) := by decide +kernel
theorem dX2_add_25 : decode cX2_add 25 = .ok (.iastore, 1) := by decide +kernel
theorem dX2_add_26 : decode cX2_add 26 = .ok (.aload_n 0, 1) := by decide +kernel
theorem dX2_add_27 : decode cX2_add 27 = .ok (.dup, 1) := by decide +kernel
theorem dX2_add_28 : decode cX2_add 28 = .ok (.getfield 15, 3) := by decide +kernel
theorem dX2_add_31 : decode cX2_add 31 = .ok (.iconst 1, 1) := by decide +kernel
theorem dX2_add_32 : decode cX2_add 32 = .ok (.iadd, 1) := by decide +kernel
theorem dX2_add_33 : decode cX2_add 33 = .ok (.putfield 15, 3) := by decide +kernel
theorem dX2_add_36 : decode cX2_add 36 = .ok (.aload_n 0, 1) := by decide +kernel
theorem dX2_add_37 : decode cX2_add 37 = .ok (.getfield 15, 3) := by decide +kernel
theorem dX2_add_40 : decode cX2_add 40 = .ok (.ireturn, 1) := by decide +kernel
theorem dX2_forget_0 : decode cX2_forget 0 = .ok (.aload_n 0, 1) := by decide +kernel
theorem dX2_forget_1 : decode cX2_forget 1 = .ok (.iconst 0, 1) := by decide +kernel
theorem dX2_forget_2 : decode cX2_forget 2 = .ok (.putfield 15, 3) := by decide +kernel
theorem dX2_forget_5 : decode cX2_forget 5 = .ok (.return_, 1) := by decide +kernel
set_option maxRecDepth 20000 in
theorem ggX2_statements_X2_letterAt : GoodIn wsX2_statements wsX2_letterAt := goodIn_r _ [6, 1, 7, 8, 9] (by decide +kernel) (by decide +kernel)
set_option maxRecDepth 20000 in
theorem gX2_statements_X2_letterAt : GoodIn wsX2_statements (wsV RX2 19 RX2 yX2_letterAt wsX2_letterAt) := goodIn_app (goodIn_of _ (by decide +kernel)) ggX2_statements_X2_letterAt
theorem dX2_statements_0 : decode cX2_statements 0 = .ok (.iconst 0, 1) := by decide +kernel
theorem dX2_statements_1 : decode cX2_statements 1 = .ok (.istore_n 1, 1) := by decide +kernel
theorem dX2_statements_2 : decode cX2_statements 2 = .ok (.iconst 0, 1) := by decide +kernel
theorem dX2_statements_3 : decode cX2_statements 3 = .ok (.istore_n 2, 1) := by decide +kernel
theorem dX2_statements_4 : decode cX2_statements 4 = .ok (.iload_n 2, 1) := by decide +kernel
theorem dX2_statements_5 : decode cX2_statements 5 = .ok (.aload_n 0, 1) := by decide +kernel
theorem dX2_statements_6 : decode cX2_statements 6 = .ok (.getfield 15, 3) := by decide +kernel
theorem dX2_statements_9 : decode cX2_statements 9 = .ok (.if_icmp .ge 22, 3) := by decide +kernel
theorem dX2_statements_12 : decode cX2_statements 12 = .ok (.aload_n 0, 1) := by decide +kernel
theorem dX2_statements_13 : decode cX2_statements 13 = .ok (.iload_n 2, 1) := by decide +kernel
theorem dX2_statements_14 : decode cX2_statements 14 = .ok (.invokevirtual 19, 3) := by decide +kernel
theorem dX2_statements_17 : decode cX2_statements 17 = .ok (.bipush 59, 2) := by decide +kernel
theorem dX2_statements_19 : decode cX2_statements 19 = .ok (.if_icmp .ne 6, 3) := by decide +kernel
theorem dX2_statements_22 : decode cX2_statements 22 = .ok (.iinc 1 1, 3) := by decide +kernel
theorem dX2_statements_25 : decode cX2_statements 25 = .ok (.iinc 2 1, 3) := by decide +kernel
theorem dX2_statements_28 : decode cX2_statements 28 = .ok (.goto (-24), 3) := by decide +kernel
theorem dX2_statements_31 : decode cX2_statements 31 = .ok (.iload_n 1, 1) := by decide +kernel
theorem dX2_statements_32 : decode cX2_statements 32 = .ok (.ireturn, 1) := by decide +kernel
set_option maxRecDepth 20000 in
theorem ggX2_firstMisfit_X2_letterAt : GoodIn wsX2_firstMisfit wsX2_letterAt := goodIn_r _ [6, 1, 7, 27, 28] (by decide +kernel) (by decide +kernel)
set_option maxRecDepth 20000 in
theorem gX2_firstMisfit_X2_letterAt : GoodIn wsX2_firstMisfit (wsV RX2 19 RX2 yX2_letterAt wsX2_letterAt) := goodIn_app (goodIn_of _ (by decide +kernel)) ggX2_firstMisfit_X2_letterAt
set_option maxRecDepth 20000 in
theorem ggX2_firstMisfit_X2_behind : GoodIn wsX2_firstMisfit wsX2_behind := goodIn_r _ [10, 11, 12, 5, 13, 14, 15, 16, 17, 18, 19, 20, 21, 22, 23, 24, 25, 26] (by decide +kernel) (by decide +kernel)
set_option maxRecDepth 20000 in
theorem gX2_firstMisfit_X2_behind : GoodIn wsX2_firstMisfit (va_wsS RX2 23 yX2_behind wsX2_behind) := goodIn_app (goodIn_of _ (by decide +kernel)) ggX2_firstMisfit_X2_behind
theorem dX2_firstMisfit_0 : decode cX2_firstMisfit 0 = .ok (.iconst 0, 1) := by decide +kernel
theorem dX2_firstMisfit_1 : decode cX2_firstMisfit 1 = .ok (.istore_n 1, 1) := by decide +kernel
theorem dX2_firstMisfit_2 : decode cX2_firstMisfit 2 = .ok (.iconst 0, 1) := by decide +kernel
theorem dX2_firstMisfit_3 : decode cX2_firstMisfit 3 = .ok (.istore_n 2, 1) := by decide +kernel
theorem dX2_firstMisfit_4 : decode cX2_firstMisfit 4 = .ok (.iload_n 2, 1) := by decide +kernel
theorem dX2_firstMisfit_5 : decode cX2_firstMisfit 5 = .ok (.aload_n 0, 1) := by decide +kernel
theorem dX2_firstMisfit_6 : decode cX2_firstMisfit 6 = .ok (.getfield 15, 3) := by decide +kernel
theorem dX2_firstMisfit_9 : decode cX2_firstMisfit 9 = .ok (.if_icmp .ge 26, 3) := by decide +kernel
theorem dX2_firstMisfit_12 : decode cX2_firstMisfit 12 = .ok (.iload_n 1, 1) := by decide +kernel
theorem dX2_firstMisfit_13 : decode cX2_firstMisfit 13 = .ok (.aload_n 0, 1) := by decide +kernel
theorem dX2_firstMisfit_14 : decode cX2_firstMisfit 14 = .ok (.iload_n 2, 1) := by decide +kernel
theorem dX2_firstMisfit_15 : decode cX2_firstMisfit 15 = .ok (.invokevirtual 19, 3) := by decide +kernel
theorem dX2_firstMisfit_18 : decode cX2_firstMisfit 18 = .ok (.invokestatic 23, 3) := by decide +kernel
theorem dX2_firstMisfit_21 : decode cX2_firstMisfit 21 = .ok (.istore_n 1, 1) := by decide +kernel
theorem dX2_firstMisfit_22 : decode cX2_firstMisfit 22 = .ok (.iload_n 1, 1) := by decide +kernel
theorem dX2_firstMisfit_23 : decode cX2_firstMisfit 23 = .ok (.iconst (-1), 1) := by decide +kernel
theorem dX2_firstMisfit_24 : decode cX2_firstMisfit 24 = .ok (.if_icmp .ne 5, 3) := by decide +kernel
theorem dX2_firstMisfit_27 : decode cX2_firstMisfit 27 = .ok (.iload_n 2, 1) := by decide +kernel
theorem dX2_firstMisfit_28 : decode cX2_firstMisfit 28 = .ok (.ireturn, 1) := by decide +kernel
theorem dX2_firstMisfit_29 : decode cX2_firstMisfit 29 = .ok (.iinc 2 1, 3) := by decide +kernel
theorem dX2_firstMisfit_32 : decode cX2_firstMisfit 32 = .ok (.goto (-28), 3) := by decide +kernel
theorem dX2_firstMisfit_35 : decode cX2_firstMisfit 35 = .ok (.aload_n 0, 1) := by decide +kernel
theorem dX2_firstMisfit_36 : decode cX2_firstMisfit 36 = .ok (.getfield 15, 3) := by decide +kernel
theorem dX2_firstMisfit_39 : decode cX2_firstMisfit 39 = .ok (.ifCond .le 11, 3) := by decide +kernel
theorem dX2_firstMisfit_42 : decode cX2_firstMisfit 42 = .ok (.iload_n 1, 1) := by decide +kernel
theorem dX2_firstMisfit_43 : decode cX2_firstMisfit 43 = .ok (.ifCond .ne 7, 3) := by decide +kernel
theorem dX2_firstMisfit_46 : decode cX2_firstMisfit 46 = .ok (.iconst (-1), 1) := by decide +kernel
theorem dX2_firstMisfit_47 : decode cX2_firstMisfit 47 = .ok (.goto 7, 3) := by decide +kernel
theorem dX2_firstMisfit_50 : decode cX2_firstMisfit 50 = .ok (.aload_n 0, 1) := by decide +kernel
theorem dX2_firstMisfit_51 : decode cX2_firstMisfit 51 = .ok (.getfield 15, 3) := by decide +kernel
theorem dX2_firstMisfit_54 : decode cX2_firstMisfit 54 = .ok (.ireturn, 1) := by decide +kernel
set_option maxRecDepth 20000 in
theorem ggX2_playOn_X2_letterAt : GoodIn wsX2_playOn wsX2_letterAt := goodIn_r _ [6, 1, 7, 104, 105] (by decide +kernel) (by decide +kernel)
set_option maxRecDepth 20000 in
theorem gX2_playOn_X2_letterAt : GoodIn wsX2_playOn (wsV RX2 19 RX2 yX2_letterAt wsX2_letterAt) := goodIn_app (goodIn_of _ (by decide +kernel)) ggX2_playOn_X2_letterAt
set_option maxRecDepth 20000 in
theorem ggX2_playOn_X2_playLodger : GoodIn wsX2_playOn wsX2_playLodger := goodIn_r _ [11, 2, 3, 4, 5, 6, 1, 7, 12, 13, 14, 15, 16, 17, 18, 19, 20, 21, 22, 23, 24, 25, 26, 27, 28, 29, 30, 31, 32, 33, 34, 35, 36, 37, 38, 39, 40, 41, 42, 43, 44, 45, 46, 47, 48, 49, 50, 51, 52, 53, 104, 105, 106, 107, 108, 109, 110, 111, 112] (by decide +kernel) (by decide +kernel)
set_option maxRecDepth 20000 in
theorem gX2_playOn_X2_playLodger : GoodIn wsX2_playOn (wsV RX2 27 RX2 yX2_playLodger wsX2_playLodger) := goodIn_app (goodIn_of _ (by decide +kernel)) ggX2_playOn_X2_playLodger
set_option maxRecDepth 20000 in
theorem ggX2_playOn_X2_playWish : GoodIn wsX2_playOn wsX2_playWish := goodIn_r _ [57, 58, 16, 17, 18, 5, 19, 2, 3, 4, 6, 1, 7, 59, 43, 44, 23, 45, 29, 41, 106, 107, 108, 109, 110, 111, 112, 104, 105] (by decide +kernel) (by decide +kernel)
set_option maxRecDepth 20000 in
theorem gX2_playOn_X2_playWish : GoodIn wsX2_playOn (wsV RX2 31 RX2 yX2_playWish wsX2_playWish) := goodIn_app (goodIn_of _ (by decide +kernel)) ggX2_playOn_X2_playWish
set_option maxRecDepth 20000 in
theorem ggX2_playOn_X2_playYear : GoodIn wsX2_playOn wsX2_playYear := goodIn_r _ [63, 64, 16, 17, 18, 5, 19, 2, 3, 4, 6, 1, 7, 59, 43, 44, 23, 45, 29, 41, 65, 66, 67, 68, 69, 70, 71, 51, 72, 73, 74, 75, 76, 77, 78, 79, 80, 81, 42, 82, 83, 84, 85, 86, 87, 88, 89, 50, 90, 91, 92, 93, 94, 95, 96, 97, 98, 99, 100, 101, 102, 35, 103, 106, 107, 108, 109, 110, 111, 112, 104, 105] (by decide +kernel) (by decide +kernel)
set_option maxRecDepth 20000 in
theorem gX2_playOn_X2_playYear : GoodIn wsX2_playOn (wsV RX2 35 RX2 yX2_playYear wsX2_playYear) := goodIn_app (goodIn_of _ (by decide +kernel)) ggX2_playOn_X2_playYear
theorem dX2_playOn_0 : decode cX2_playOn 0 = .ok (.iconst 0, 1) := by decide +kernel
theorem dX2_playOn_1 : decode cX2_playOn 1 = .ok (.istore_n 2, 1) := by decide +kernel
theorem dX2_playOn_2 : decode cX2_playOn 2 = .ok (.iconst 0, 1) := by decide +kernel
theorem dX2_playOn_3 : decode cX2_playOn 3 = .ok (.istore_n 3, 1) := by decide +kernel
theorem dX2_playOn_4 : decode cX2_playOn 4 = .ok (.iload_n 3, 1) := by decide +kernel
theorem dX2_playOn_5 : decode cX2_playOn 5 = .ok (.aload_n 0, 1) := by decide +kernel
theorem dX2_playOn_6 : decode cX2_playOn 6 = .ok (.getfield 15, 3) := by decide +kernel
theorem dX2_playOn_9 : decode cX2_playOn 9 = .ok (.if_icmp .ge 96, 3) := by decide +kernel
theorem dX2_playOn_12 : decode cX2_playOn 12 = .ok (.aload_n 0, 1) := by decide +kernel
theorem dX2_playOn_13 : decode cX2_playOn 13 = .ok (.iload_n 3, 1) := by decide +kernel
theorem dX2_playOn_14 : decode cX2_playOn 14 = .ok (.invokevirtual 19, 3) := by decide +kernel
theorem dX2_playOn_17 : decode cX2_playOn 17 = .ok (.bipush 59, 2) := by decide +kernel
theorem dX2_playOn_19 : decode cX2_playOn 19 = .ok (.if_icmp .eq 6, 3) := by decide +kernel
theorem dX2_playOn_22 : decode cX2_playOn 22 = .ok (.goto 77, 3) := by decide +kernel
theorem dX2_playOn_25 : decode cX2_playOn 25 = .ok (.aload_n 0, 1) := by decide +kernel
theorem dX2_playOn_26 : decode cX2_playOn 26 = .ok (.iload_n 2, 1) := by decide +kernel
theorem dX2_playOn_27 : decode cX2_playOn 27 = .ok (.invokevirtual 19, 3) := by decide +kernel
theorem dX2_playOn_30 : decode cX2_playOn 30 = .ok (.lookupswitch 49 #[(108, 26), (119, 38)], 26) := by decide +kernel
theorem dX2_playOn_56 : decode cX2_playOn 56 = .ok (.aload_n 0, 1) := by decide +kernel
theorem dX2_playOn_57 : decode cX2_playOn 57 = .ok (.aload_n 1, 1) := by decide +kernel
theorem dX2_playOn_58 : decode cX2_playOn 58 = .ok (.iload_n 2, 1) := by decide +kernel
theorem dX2_playOn_59 : decode cX2_playOn 59 = .ok (.iload_n 3, 1) := by decide +kernel
theorem dX2_playOn_60 : decode cX2_playOn 60 = .ok (.invokevirtual 27, 3) := by decide +kernel
theorem dX2_playOn_63 : decode cX2_playOn 63 = .ok (.istore 4, 2) := by decide +kernel
theorem dX2_playOn_65 : decode cX2_playOn 65 = .ok (.goto 23, 3) := by decide +kernel
theorem dX2_playOn_68 : decode cX2_playOn 68 = .ok (.aload_n 0, 1) := by decide +kernel
theorem dX2_playOn_69 : decode cX2_playOn 69 = .ok (.aload_n 1, 1) := by decide +kernel
theorem dX2_playOn_70 : decode cX2_playOn 70 = .ok (.iload_n 2, 1) := by decide +kernel
theorem dX2_playOn_71 : decode cX2_playOn 71 = .ok (.invokevirtual 31, 3) := by decide +kernel
theorem dX2_playOn_74 : decode cX2_playOn 74 = .ok (.istore 4, 2) := by decide +kernel
theorem dX2_playOn_76 : decode cX2_playOn 76 = .ok (.goto 12, 3) := by decide +kernel
theorem dX2_playOn_79 : decode cX2_playOn 79 = .ok (.aload_n 0, 1) := by decide +kernel
theorem dX2_playOn_80 : decode cX2_playOn 80 = .ok (.aload_n 1, 1) := by decide +kernel
theorem dX2_playOn_81 : decode cX2_playOn 81 = .ok (.iload_n 2, 1) := by decide +kernel
theorem dX2_playOn_82 : decode cX2_playOn 82 = .ok (.iload_n 3, 1) := by decide +kernel
theorem dX2_playOn_83 : decode cX2_playOn 83 = .ok (.invokevirtual 35, 3) := by decide +kernel
theorem dX2_playOn_86 : decode cX2_playOn 86 = .ok (.istore 4, 2) := by decide +kernel
theorem dX2_playOn_88 : decode cX2_playOn 88 = .ok (.iload 4, 2) := by decide +kernel
theorem dX2_playOn_90 : decode cX2_playOn 90 = .ok (.ifCond .ne 5, 3) := by decide +kernel
theorem dX2_playOn_93 : decode cX2_playOn 93 = .ok (.iload_n 2, 1) := by decide +kernel
theorem dX2_playOn_94 : decode cX2_playOn 94 = .ok (.ireturn, 1) := by decide +kernel
theorem dX2_playOn_95 : decode cX2_playOn 95 = .ok (.iload_n 3, 1) := by decide +kernel
theorem dX2_playOn_96 : decode cX2_playOn 96 = .ok (.iconst 1, 1) := by decide +kernel
theorem dX2_playOn_97 : decode cX2_playOn 97 = .ok (.iadd, 1) := by decide +kernel
theorem dX2_playOn_98 : decode cX2_playOn 98 = .ok (.istore_n 2, 1) := by decide +kernel
theorem dX2_playOn_99 : decode cX2_playOn 99 = .ok (.iinc 3 1, 3) := by decide +kernel
theorem dX2_playOn_102 : decode cX2_playOn 102 = .ok (.goto (-98), 3) := by decide +kernel
theorem dX2_playOn_105 : decode cX2_playOn 105 = .ok (.iconst (-1), 1) := by decide +kernel
theorem dX2_playOn_106 : decode cX2_playOn 106 = .ok (.ireturn, 1) := by decide +kernel
set_option maxRecDepth 20000 in
theorem ggX2_behind_X2_behindStart : GoodIn wsX2_behind wsX2_behindStart := goodIn_r _ [4] (by decide +kernel) (by decide +kernel)
set_option maxRecDepth 20000 in
theorem gX2_behind_X2_behindStart : GoodIn wsX2_behind (va_wsS RX2 38 yX2_behindStart wsX2_behindStart) := goodIn_app (goodIn_of _ (by decide +kernel)) ggX2_behind_X2_behindStart
set_option maxRecDepth 20000 in
theorem ggX2_behind_X0_ofLetter : GoodIn wsX2_behind wsX0_ofLetter := goodIn_r _ [8] (by decide +kernel) (by decide +kernel)
set_option maxRecDepth 20000 in
theorem gX2_behind_X0_ofLetter : GoodIn wsX2_behind (va_wsS RX2 41 yX0_ofLetter wsX0_ofLetter) := goodIn_app (goodIn_of _ (by decide +kernel)) ggX2_behind_X0_ofLetter
set_option maxRecDepth 20000 in
theorem ggX2_behind_X2_isDigit : GoodIn wsX2_behind wsX2_isDigit := goodIn_r _ [11] (by decide +kernel) (by decide +kernel)
set_option maxRecDepth 20000 in
theorem gX2_behind_X2_isDigit : GoodIn wsX2_behind (va_wsS RX2 46 yX2_isDigit wsX2_isDigit) := goodIn_app (goodIn_of _ (by decide +kernel)) ggX2_behind_X2_isDigit
set_option maxRecDepth 20000 in
theorem ggX2_behind_X2_behindAge : GoodIn wsX2_behind wsX2_behindAge := goodIn_r _ [14] (by decide +kernel) (by decide +kernel)
set_option maxRecDepth 20000 in
theorem gX2_behind_X2_behindAge : GoodIn wsX2_behind (va_wsS RX2 50 yX2_behindAge wsX2_behindAge) := goodIn_app (goodIn_of _ (by decide +kernel)) ggX2_behind_X2_behindAge
set_option maxRecDepth 20000 in
theorem ggX2_behind_X2_behindDead : GoodIn wsX2_behind wsX2_behindDead := goodIn_r _ [17, 9, 10, 3, 11] (by decide +kernel) (by decide +kernel)
set_option maxRecDepth 20000 in
theorem gX2_behind_X2_behindDead : GoodIn wsX2_behind (va_wsS RX2 53 yX2_behindDead wsX2_behindDead) := goodIn_app (goodIn_of _ (by decide +kernel)) ggX2_behind_X2_behindDead
theorem dX2_behind_0 : decode cX2_behind 0 = .ok (.iload_n 0, 1) := by decide +kernel
theorem dX2_behind_1 : decode cX2_behind 1 = .ok (.tableswitch 157 0 8 #[51, 56, 69, 82, 98, 103, 117, 131, 145], 51) := by decide +kernel
theorem dX2_behind_52 : decode cX2_behind 52 = .ok (.iload_n 1, 1) := by decide +kernel
theorem dX2_behind_53 : decode cX2_behind 53 = .ok (.invokestatic 38, 3) := by decide +kernel
theorem dX2_behind_56 : decode cX2_behind 56 = .ok (.ireturn, 1) := by decide +kernel
theorem dX2_behind_57 : decode cX2_behind 57 = .ok (.iload_n 1, 1) := by decide +kernel
theorem dX2_behind_58 : decode cX2_behind 58 = .ok (.invokestatic 41, 3) := by decide +kernel
theorem dX2_behind_61 : decode cX2_behind 61 = .ok (.ifCond .lt 7, 3) := by decide +kernel
theorem dX2_behind_64 : decode cX2_behind 64 = .ok (.iconst 2, 1) := by decide +kernel
theorem dX2_behind_65 : decode cX2_behind 65 = .ok (.goto 4, 3) := by decide +kernel
theorem dX2_behind_68 : decode cX2_behind 68 = .ok (.iconst (-1), 1) := by decide +kernel
theorem dX2_behind_69 : decode cX2_behind 69 = .ok (.ireturn, 1) := by decide +kernel
theorem dX2_behind_70 : decode cX2_behind 70 = .ok (.iload_n 1, 1) := by decide +kernel
theorem dX2_behind_71 : decode cX2_behind 71 = .ok (.invokestatic 46, 3) := by decide +kernel
theorem dX2_behind_74 : decode cX2_behind 74 = .ok (.ifCond .eq 7, 3) := by decide +kernel
theorem dX2_behind_77 : decode cX2_behind 77 = .ok (.iconst 3, 1) := by decide +kernel
theorem dX2_behind_78 : decode cX2_behind 78 = .ok (.goto 4, 3) := by decide +kernel
theorem dX2_behind_81 : decode cX2_behind 81 = .ok (.iconst (-1), 1) := by decide +kernel
theorem dX2_behind_82 : decode cX2_behind 82 = .ok (.ireturn, 1) := by decide +kernel
theorem dX2_behind_83 : decode cX2_behind 83 = .ok (.iload_n 1, 1) := by decide +kernel
theorem dX2_behind_84 : decode cX2_behind 84 = .ok (.invokestatic 46, 3) := by decide +kernel
theorem dX2_behind_87 : decode cX2_behind 87 = .ok (.ifCond .eq 7, 3) := by decide +kernel
theorem dX2_behind_90 : decode cX2_behind 90 = .ok (.iconst 4, 1) := by decide +kernel
theorem dX2_behind_91 : decode cX2_behind 91 = .ok (.goto 7, 3) := by decide +kernel
theorem dX2_behind_94 : decode cX2_behind 94 = .ok (.iload_n 1, 1) := by decide +kernel
theorem dX2_behind_95 : decode cX2_behind 95 = .ok (.invokestatic 50, 3) := by decide +kernel
theorem dX2_behind_98 : decode cX2_behind 98 = .ok (.ireturn, 1) := by decide +kernel
theorem dX2_behind_99 : decode cX2_behind 99 = .ok (.iload_n 1, 1) := by decide +kernel
theorem dX2_behind_100 : decode cX2_behind 100 = .ok (.invokestatic 50, 3) := by decide +kernel
theorem dX2_behind_103 : decode cX2_behind 103 = .ok (.ireturn, 1) := by decide +kernel
theorem dX2_behind_104 : decode cX2_behind 104 = .ok (.iload_n 1, 1) := by decide +kernel
theorem dX2_behind_105 : decode cX2_behind 105 = .ok (.invokestatic 46, 3) := by decide +kernel
theorem dX2_behind_108 : decode cX2_behind 108 = .ok (.ifCond .eq 8, 3) := by decide +kernel
theorem dX2_behind_111 : decode cX2_behind 111 = .ok (.bipush 8, 2) := by decide +kernel
theorem dX2_behind_113 : decode cX2_behind 113 = .ok (.goto 4, 3) := by decide +kernel
theorem dX2_behind_116 : decode cX2_behind 116 = .ok (.iconst (-1), 1) := by decide +kernel
theorem dX2_behind_117 : decode cX2_behind 117 = .ok (.ireturn, 1) := by decide +kernel
theorem dX2_behind_118 : decode cX2_behind 118 = .ok (.iload_n 1, 1) := by decide +kernel
theorem dX2_behind_119 : decode cX2_behind 119 = .ok (.invokestatic 46, 3) := by decide +kernel
theorem dX2_behind_122 : decode cX2_behind 122 = .ok (.ifCond .eq 8, 3) := by decide +kernel
theorem dX2_behind_125 : decode cX2_behind 125 = .ok (.bipush 7, 2) := by decide +kernel
theorem dX2_behind_127 : decode cX2_behind 127 = .ok (.goto 4, 3) := by decide +kernel
theorem dX2_behind_130 : decode cX2_behind 130 = .ok (.iconst (-1), 1) := by decide +kernel
theorem dX2_behind_131 : decode cX2_behind 131 = .ok (.ireturn, 1) := by decide +kernel
theorem dX2_behind_132 : decode cX2_behind 132 = .ok (.iload_n 1, 1) := by decide +kernel
theorem dX2_behind_133 : decode cX2_behind 133 = .ok (.invokestatic 46, 3) := by decide +kernel
theorem dX2_behind_136 : decode cX2_behind 136 = .ok (.ifCond .eq 8, 3) := by decide +kernel
theorem dX2_behind_139 : decode cX2_behind 139 = .ok (.bipush 8, 2) := by decide +kernel
theorem dX2_behind_141 : decode cX2_behind 141 = .ok (.goto 4, 3) := by decide +kernel
theorem dX2_behind_144 : decode cX2_behind 144 = .ok (.iconst (-1), 1) := by decide +kernel
theorem dX2_behind_145 : decode cX2_behind 145 = .ok (.ireturn, 1) := by decide +kernel
theorem dX2_behind_146 : decode cX2_behind 146 = .ok (.iload_n 1, 1) := by decide +kernel
theorem dX2_behind_147 : decode cX2_behind 147 = .ok (.bipush 59, 2) := by decide +kernel
theorem dX2_behind_149 : decode cX2_behind 149 = .ok (.if_icmp .ne 7, 3) := by decide +kernel
theorem dX2_behind_152 : decode cX2_behind 152 = .ok (.iconst 0, 1) := by decide +kernel
theorem dX2_behind_153 : decode cX2_behind 153 = .ok (.goto 4, 3) := by decide +kernel
theorem dX2_behind_156 : decode cX2_behind 156 = .ok (.iconst (-1), 1) := by decide +kernel
theorem dX2_behind_157 : decode cX2_behind 157 = .ok (.ireturn, 1) := by decide +kernel
theorem dX2_behind_158 : decode cX2_behind 158 = .ok (.iload_n 0, 1) := by decide +kernel
theorem dX2_behind_159 : decode cX2_behind 159 = .ok (.iload_n 1, 1) := by decide +kernel
theorem dX2_behind_160 : decode cX2_behind 160 = .ok (.invokestatic 53, 3) := by decide +kernel
theorem dX2_behind_163 : decode cX2_behind 163 = .ok (.ireturn, 1) := by decide +kernel
theorem dX2_behindStart_0 : decode cX2_behindStart 0 = .ok (.iload_n 0, 1) := by decide +kernel
theorem dX2_behindStart_1 : decode cX2_behindStart 1 = .ok (.lookupswitch 43 #[(108, 35), (119, 37), (121, 40)], 35) := by decide +kernel
theorem dX2_behindStart_36 : decode cX2_behindStart 36 = .ok (.iconst 1, 1) := by decide +kernel
theorem dX2_behindStart_37 : decode cX2_behindStart 37 = .ok (.ireturn, 1) := by decide +kernel
theorem dX2_behindStart_38 : decode cX2_behindStart 38 = .ok (.bipush 6, 2) := by decide +kernel
theorem dX2_behindStart_40 : decode cX2_behindStart 40 = .ok (.ireturn, 1) := by decide +kernel
theorem dX2_behindStart_41 : decode cX2_behindStart 41 = .ok (.bipush 9, 2) := by decide +kernel
theorem dX2_behindStart_43 : decode cX2_behindStart 43 = .ok (.ireturn, 1) := by decide +kernel
theorem dX2_behindStart_44 : decode cX2_behindStart 44 = .ok (.iconst (-1), 1) := by decide +kernel
theorem dX2_behindStart_45 : decode cX2_behindStart 45 = .ok (.ireturn, 1) := by decide +kernel
theorem dX2_behindAge_0 : decode cX2_behindAge 0 = .ok (.iload_n 0, 1) := by decide +kernel
theorem dX2_behindAge_1 : decode cX2_behindAge 1 = .ok (.bipush 44, 2) := by decide +kernel
theorem dX2_behindAge_3 : decode cX2_behindAge 3 = .ok (.if_icmp .ne 7, 3) := by decide +kernel
theorem dX2_behindAge_6 : decode cX2_behindAge 6 = .ok (.iconst 5, 1) := by decide +kernel
theorem dX2_behindAge_7 : decode cX2_behindAge 7 = .ok (.goto 4, 3) := by decide +kernel
theorem dX2_behindAge_10 : decode cX2_behindAge 10 = .ok (.iconst (-1), 1) := by decide +kernel
theorem dX2_behindAge_11 : decode cX2_behindAge 11 = .ok (.ireturn, 1) := by decide +kernel
set_option maxRecDepth 20000 in
theorem ggX2_behindDead_X2_isDigit : GoodIn wsX2_behindDead wsX2_isDigit := goodIn_r _ [4] (by decide +kernel) (by decide +kernel)
set_option maxRecDepth 20000 in
theorem gX2_behindDead_X2_isDigit : GoodIn wsX2_behindDead (va_wsS RX2 46 yX2_isDigit wsX2_isDigit) := goodIn_app (goodIn_of _ (by decide +kernel)) ggX2_behindDead_X2_isDigit
theorem dX2_behindDead_0 : decode cX2_behindDead 0 = .ok (.iload_n 1, 1) := by decide +kernel
theorem dX2_behindDead_1 : decode cX2_behindDead 1 = .ok (.bipush 59, 2) := by decide +kernel
theorem dX2_behindDead_3 : decode cX2_behindDead 3 = .ok (.if_icmp .ne 5, 3) := by decide +kernel
theorem dX2_behindDead_6 : decode cX2_behindDead 6 = .ok (.iconst 0, 1) := by decide +kernel
theorem dX2_behindDead_7 : decode cX2_behindDead 7 = .ok (.ireturn, 1) := by decide +kernel
theorem dX2_behindDead_8 : decode cX2_behindDead 8 = .ok (.iload_n 1, 1) := by decide +kernel
theorem dX2_behindDead_9 : decode cX2_behindDead 9 = .ok (.invokestatic 46, 3) := by decide +kernel
theorem dX2_behindDead_12 : decode cX2_behindDead 12 = .ok (.ifCond .eq 15, 3) := by decide +kernel
theorem dX2_behindDead_15 : decode cX2_behindDead 15 = .ok (.iload_n 0, 1) := by decide +kernel
theorem dX2_behindDead_16 : decode cX2_behindDead 16 = .ok (.bipush 17, 2) := by decide +kernel
theorem dX2_behindDead_18 : decode cX2_behindDead 18 = .ok (.if_icmp .ge 9, 3) := by decide +kernel
theorem dX2_behindDead_21 : decode cX2_behindDead 21 = .ok (.iload_n 0, 1) := by decide +kernel
theorem dX2_behindDead_22 : decode cX2_behindDead 22 = .ok (.iconst 1, 1) := by decide +kernel
theorem dX2_behindDead_23 : decode cX2_behindDead 23 = .ok (.iadd, 1) := by decide +kernel
theorem dX2_behindDead_24 : decode cX2_behindDead 24 = .ok (.goto 4, 3) := by decide +kernel
theorem dX2_behindDead_27 : decode cX2_behindDead 27 = .ok (.iconst (-1), 1) := by decide +kernel
theorem dX2_behindDead_28 : decode cX2_behindDead 28 = .ok (.ireturn, 1) := by decide +kernel
set_option maxRecDepth 20000 in
theorem ggX2_playLodger_X2_letterAt : GoodIn wsX2_playLodger wsX2_letterAt := goodIn_r _ [5, 6, 7, 50, 51] (by decide +kernel) (by decide +kernel)
set_option maxRecDepth 20000 in
theorem gX2_playLodger_X2_letterAt : GoodIn wsX2_playLodger (wsV RX2 19 RX2 yX2_letterAt wsX2_letterAt) := goodIn_app (goodIn_of _ (by decide +kernel)) ggX2_playLodger_X2_letterAt
set_option maxRecDepth 20000 in
theorem ggX2_playLodger_X0_ofLetter : GoodIn wsX2_playLodger wsX0_ofLetter := goodIn_r _ [11] (by decide +kernel) (by decide +kernel)
set_option maxRecDepth 20000 in
theorem gX2_playLodger_X0_ofLetter : GoodIn wsX2_playLodger (va_wsS RX2 41 yX0_ofLetter wsX0_ofLetter) := goodIn_app (goodIn_of _ (by decide +kernel)) ggX2_playLodger_X0_ofLetter
set_option maxRecDepth 20000 in
theorem ggX2_playLodger_X2_digitAt : GoodIn wsX2_playLodger wsX2_digitAt := goodIn_r _ [15, 1, 2, 3, 4, 5, 6, 7, 50, 51] (by decide +kernel) (by decide +kernel)
set_option maxRecDepth 20000 in
theorem gX2_playLodger_X2_digitAt : GoodIn wsX2_playLodger (wsV RX2 56 RX2 yX2_digitAt wsX2_digitAt) := goodIn_app (goodIn_of _ (by decide +kernel)) ggX2_playLodger_X2_digitAt
set_option maxRecDepth 20000 in
theorem ggX2_playLodger_X3_couldComeIn : GoodIn wsX2_playLodger wsX3_couldComeIn := goodIn_r _ [20, 21, 22, 23, 19, 24, 25, 26, 27, 10, 28, 29, 30, 31, 32, 33, 34, 35, 36, 37, 38, 39, 40, 41, 52, 53, 54, 55, 56, 57, 58] (by decide +kernel) (by decide +kernel)
set_option maxRecDepth 20000 in
theorem gX2_playLodger_X3_couldComeIn : GoodIn wsX2_playLodger (wsV RX2 59 RX3 yX3_couldComeIn wsX3_couldComeIn) := goodIn_app (goodIn_of _ (by decide +kernel)) ggX2_playLodger_X3_couldComeIn
set_option maxRecDepth 20000 in
theorem ggX2_playLodger_X3_admit : GoodIn wsX2_playLodger wsX3_admit := goodIn_r _ [45, 25, 46, 47, 37, 48, 49, 26, 27, 10, 28, 29, 30, 31, 32, 52, 53, 54, 55, 56, 57, 58] (by decide +kernel) (by decide +kernel)
set_option maxRecDepth 20000 in
theorem gX2_playLodger_X3_admit : GoodIn wsX2_playLodger (wsV RX2 65 RX3 yX3_admit wsX3_admit) := goodIn_app (goodIn_of _ (by decide +kernel)) ggX2_playLodger_X3_admit
theorem dX2_playLodger_0 : decode cX2_playLodger 0 = .ok (.aload_n 0, 1) := by decide +kernel
theorem dX2_playLodger_1 : decode cX2_playLodger 1 = .ok (.iload_n 2, 1) := by decide +kernel
theorem dX2_playLodger_2 : decode cX2_playLodger 2 = .ok (.iconst 1, 1) := by decide +kernel
theorem dX2_playLodger_3 : decode cX2_playLodger 3 = .ok (.iadd, 1) := by decide +kernel
theorem dX2_playLodger_4 : decode cX2_playLodger 4 = .ok (.invokevirtual 19, 3) := by decide +kernel
theorem dX2_playLodger_7 : decode cX2_playLodger 7 = .ok (.invokestatic 41, 3) := by decide +kernel
theorem dX2_playLodger_10 : decode cX2_playLodger 10 = .ok (.istore 4, 2) := by decide +kernel
theorem dX2_playLodger_12 : decode cX2_playLodger 12 = .ok (.iconst 0, 1) := by decide +kernel
theorem dX2_playLodger_13 : decode cX2_playLodger 13 = .ok (.istore 5, 2) := by decide +kernel
theorem dX2_playLodger_15 : decode cX2_playLodger 15 = .ok (.iload_n 2, 1) := by decide +kernel
theorem dX2_playLodger_16 : decode cX2_playLodger 16 = .ok (.iconst 2, 1) := by decide +kernel
theorem dX2_playLodger_17 : decode cX2_playLodger 17 = .ok (.iadd, 1) := by decide +kernel
theorem dX2_playLodger_18 : decode cX2_playLodger 18 = .ok (.istore 6, 2) := by decide +kernel
theorem dX2_playLodger_20 : decode cX2_playLodger 20 = .ok (.iload 6, 2) := by decide +kernel
theorem dX2_playLodger_22 : decode cX2_playLodger 22 = .ok (.iload_n 3, 1) := by decide +kernel
theorem dX2_playLodger_23 : decode cX2_playLodger 23 = .ok (.iconst 2, 1) := by decide +kernel
theorem dX2_playLodger_24 : decode cX2_playLodger 24 = .ok (.isub, 1) := by decide +kernel
theorem dX2_playLodger_25 : decode cX2_playLodger 25 = .ok (.if_icmp .ge 23, 3) := by decide +kernel
theorem dX2_playLodger_28 : decode cX2_playLodger 28 = .ok (.iload 5, 2) := by decide +kernel
theorem dX2_playLodger_30 : decode cX2_playLodger 30 = .ok (.bipush 10, 2) := by decide +kernel
theorem dX2_playLodger_32 : decode cX2_playLodger 32 = .ok (.imul, 1) := by decide +kernel
theorem dX2_playLodger_33 : decode cX2_playLodger 33 = .ok (.aload_n 0, 1) := by decide +kernel
theorem dX2_playLodger_34 : decode cX2_playLodger 34 = .ok (.iload 6, 2) := by decide +kernel
theorem dX2_playLodger_36 : decode cX2_playLodger 36 = .ok (.invokevirtual 56, 3) := by decide +kernel
theorem dX2_playLodger_39 : decode cX2_playLodger 39 = .ok (.iadd, 1) := by decide +kernel
theorem dX2_playLodger_40 : decode cX2_playLodger 40 = .ok (.istore 5, 2) := by decide +kernel
theorem dX2_playLodger_42 : decode cX2_playLodger 42 = .ok (.iinc 6 1, 3) := by decide +kernel
theorem dX2_playLodger_45 : decode cX2_playLodger 45 = .ok (.goto (-25), 3) := by decide +kernel
theorem dX2_playLodger_48 : decode cX2_playLodger 48 = .ok (.aload_n 1, 1) := by decide +kernel
theorem dX2_playLodger_49 : decode cX2_playLodger 49 = .ok (.iload 4, 2) := by decide +kernel
theorem dX2_playLodger_51 : decode cX2_playLodger 51 = .ok (.iload 5, 2) := by decide +kernel
theorem dX2_playLodger_53 : decode cX2_playLodger 53 = .ok (.invokevirtual 59, 3) := by decide +kernel
theorem dX2_playLodger_56 : decode cX2_playLodger 56 = .ok (.ifCond .eq 25, 3) := by decide +kernel
theorem dX2_playLodger_59 : decode cX2_playLodger 59 = .ok (.aload_n 1, 1) := by decide +kernel
theorem dX2_playLodger_60 : decode cX2_playLodger 60 = .ok (.iload 4, 2) := by decide +kernel
theorem dX2_playLodger_62 : decode cX2_playLodger 62 = .ok (.iload 5, 2) := by decide +kernel
theorem dX2_playLodger_64 : decode cX2_playLodger 64 = .ok (.aload_n 0, 1) := by decide +kernel
theorem dX2_playLodger_65 : decode cX2_playLodger 65 = .ok (.iload_n 3, 1) := by decide +kernel
theorem dX2_playLodger_66 : decode cX2_playLodger 66 = .ok (.iconst 1, 1) := by decide +kernel
theorem dX2_playLodger_67 : decode cX2_playLodger 67 = .ok (.isub, 1) := by decide +kernel
theorem dX2_playLodger_68 : decode cX2_playLodger 68 = .ok (.invokevirtual 56, 3) := by decide +kernel
theorem dX2_playLodger_71 : decode cX2_playLodger 71 = .ok (.invokevirtual 65, 3) := by decide +kernel
theorem dX2_playLodger_74 : decode cX2_playLodger 74 = .ok (.ifCond .lt 7, 3) := by decide +kernel
theorem dX2_playLodger_77 : decode cX2_playLodger 77 = .ok (.iconst 1, 1) := by decide +kernel
theorem dX2_playLodger_78 : decode cX2_playLodger 78 = .ok (.goto 4, 3) := by decide +kernel
theorem dX2_playLodger_81 : decode cX2_playLodger 81 = .ok (.iconst 0, 1) := by decide +kernel
theorem dX2_playLodger_82 : decode cX2_playLodger 82 = .ok (.ireturn, 1) := by decide +kernel
set_option maxRecDepth 20000 in
theorem ggX2_playWish_X2_digitAt : GoodIn wsX2_playWish wsX2_digitAt := goodIn_r _ [6, 7, 8, 9, 5, 10, 11, 12, 27, 28] (by decide +kernel) (by decide +kernel)
set_option maxRecDepth 20000 in
theorem gX2_playWish_X2_digitAt : GoodIn wsX2_playWish (wsV RX2 56 RX2 yX2_digitAt wsX2_digitAt) := goodIn_app (goodIn_of _ (by decide +kernel)) ggX2_playWish_X2_digitAt
set_option maxRecDepth 20000 in
theorem ggX2_playWish_X3_isAlive : GoodIn wsX2_playWish wsX3_isAlive := goodIn_r _ [17, 18, 19, 20, 21, 22, 23, 24, 25, 26] (by decide +kernel) (by decide +kernel)
set_option maxRecDepth 20000 in
theorem gX2_playWish_X3_isAlive : GoodIn wsX2_playWish (wsV RX2 69 RX3 yX3_isAlive wsX3_isAlive) := goodIn_app (goodIn_of _ (by decide +kernel)) ggX2_playWish_X3_isAlive
theorem dX2_playWish_0 : decode cX2_playWish 0 = .ok (.aload_n 0, 1) := by decide +kernel
theorem dX2_playWish_1 : decode cX2_playWish 1 = .ok (.iload_n 2, 1) := by decide +kernel
theorem dX2_playWish_2 : decode cX2_playWish 2 = .ok (.iconst 1, 1) := by decide +kernel
theorem dX2_playWish_3 : decode cX2_playWish 3 = .ok (.iadd, 1) := by decide +kernel
theorem dX2_playWish_4 : decode cX2_playWish 4 = .ok (.invokevirtual 56, 3) := by decide +kernel
theorem dX2_playWish_7 : decode cX2_playWish 7 = .ok (.istore_n 3, 1) := by decide +kernel
theorem dX2_playWish_8 : decode cX2_playWish 8 = .ok (.aload_n 1, 1) := by decide +kernel
theorem dX2_playWish_9 : decode cX2_playWish 9 = .ok (.iload_n 3, 1) := by decide +kernel
theorem dX2_playWish_10 : decode cX2_playWish 10 = .ok (.invokevirtual 69, 3) := by decide +kernel
theorem dX2_playWish_13 : decode cX2_playWish 13 = .ok (.ifCond .ne 5, 3) := by decide +kernel
theorem dX2_playWish_16 : decode cX2_playWish 16 = .ok (.iconst 0, 1) := by decide +kernel
theorem dX2_playWish_17 : decode cX2_playWish 17 = .ok (.ireturn, 1) := by decide +kernel
theorem dX2_playWish_18 : decode cX2_playWish 18 = .ok (.aload_n 1, 1) := by decide +kernel
theorem dX2_playWish_19 : decode cX2_playWish 19 = .ok (.getfield 72, 3) := by decide +kernel
theorem dX2_playWish_22 : decode cX2_playWish 22 = .ok (.iload_n 3, 1) := by decide +kernel
theorem dX2_playWish_23 : decode cX2_playWish 23 = .ok (.aload_n 0, 1) := by decide +kernel
theorem dX2_playWish_24 : decode cX2_playWish 24 = .ok (.iload_n 2, 1) := by decide +kernel
theorem dX2_playWish_25 : decode cX2_playWish 25 = .ok (.iconst 2, 1) := by decide +kernel
theorem dX2_playWish_26 : decode cX2_playWish 26 = .ok (.iadd, 1) := by decide +kernel
theorem dX2_playWish_27 : decode cX2_playWish 27 = .ok (.invokevirtual 56, 3) := by decide +kernel
theorem dX2_playWish_30 : decode cX2_playWish 30 = .ok (.iastore, 1) := by decide +kernel
theorem dX2_playWish_31 : decode cX2_playWish 31 = .ok (.iconst 1, 1) := by decide +kernel
theorem dX2_playWish_32 : decode cX2_playWish 32 = .ok (.ireturn, 1) := by decide +kernel
set_option maxRecDepth 20000 in
theorem ggX2_playYear_X2_digitAt : GoodIn wsX2_playYear wsX2_digitAt := goodIn_r _ [6, 7, 8, 9, 5, 10, 11, 12, 70, 71] (by decide +kernel) (by decide +kernel)
set_option maxRecDepth 20000 in
theorem gX2_playYear_X2_digitAt : GoodIn wsX2_playYear (wsV RX2 56 RX2 yX2_digitAt wsX2_digitAt) := goodIn_app (goodIn_of _ (by decide +kernel)) ggX2_playYear_X2_digitAt
set_option maxRecDepth 20000 in
theorem ggX2_playYear_X3_isAlive : GoodIn wsX2_playYear wsX3_isAlive := goodIn_r _ [17, 18, 19, 63, 64, 65, 66, 67, 68, 69] (by decide +kernel) (by decide +kernel)
set_option maxRecDepth 20000 in
theorem gX2_playYear_X3_isAlive : GoodIn wsX2_playYear (wsV RX2 69 RX3 yX3_isAlive wsX3_isAlive) := goodIn_app (goodIn_of _ (by decide +kernel)) ggX2_playYear_X3_isAlive
set_option maxRecDepth 20000 in
theorem ggX2_playYear_X3_holds : GoodIn wsX2_playYear wsX3_holds := goodIn_r _ [22] (by decide +kernel) (by decide +kernel)
set_option maxRecDepth 20000 in
theorem gX2_playYear_X3_holds : GoodIn wsX2_playYear (va_wsS RX2 75 yX3_holds wsX3_holds) := goodIn_app (goodIn_of _ (by decide +kernel)) ggX2_playYear_X3_holds
set_option maxRecDepth 20000 in
theorem ggX2_playYear_X3_passYear : GoodIn wsX2_playYear wsX3_passYear := goodIn_r _ [26, 19, 27, 28, 29, 30, 31, 16, 32, 33, 21, 22, 34, 35, 36, 37, 38, 14, 15, 17, 18, 39, 40, 41, 42, 43, 44, 45, 46, 47, 48, 49, 50, 51, 52, 53, 54, 55, 56, 57, 58, 59, 60, 61, 62, 63, 64, 65, 66, 67, 68, 69] (by decide +kernel) (by decide +kernel)
set_option maxRecDepth 20000 in
theorem gX2_playYear_X3_passYear : GoodIn wsX2_playYear (wsV RX2 81 RX3 yX3_passYear wsX3_passYear) := goodIn_app (goodIn_of _ (by decide +kernel)) ggX2_playYear_X3_passYear
theorem dX2_playYear_0 : decode cX2_playYear 0 = .ok (.iconst 0, 1) := by decide +kernel
theorem dX2_playYear_1 : decode cX2_playYear 1 = .ok (.istore 4, 2) := by decide +kernel
theorem dX2_playYear_3 : decode cX2_playYear 3 = .ok (.iload_n 2, 1) := by decide +kernel
theorem dX2_playYear_4 : decode cX2_playYear 4 = .ok (.iconst 1, 1) := by decide +kernel
theorem dX2_playYear_5 : decode cX2_playYear 5 = .ok (.iadd, 1) := by decide +kernel
theorem dX2_playYear_6 : decode cX2_playYear 6 = .ok (.istore 5, 2) := by decide +kernel
theorem dX2_playYear_8 : decode cX2_playYear 8 = .ok (.iload 5, 2) := by decide +kernel
theorem dX2_playYear_10 : decode cX2_playYear 10 = .ok (.iload_n 3, 1) := by decide +kernel
theorem dX2_playYear_11 : decode cX2_playYear 11 = .ok (.if_icmp .ge 47, 3) := by decide +kernel
theorem dX2_playYear_14 : decode cX2_playYear 14 = .ok (.aload_n 0, 1) := by decide +kernel
theorem dX2_playYear_15 : decode cX2_playYear 15 = .ok (.iload 5, 2) := by decide +kernel
theorem dX2_playYear_17 : decode cX2_playYear 17 = .ok (.invokevirtual 56, 3) := by decide +kernel
theorem dX2_playYear_20 : decode cX2_playYear 20 = .ok (.istore 6, 2) := by decide +kernel
theorem dX2_playYear_22 : decode cX2_playYear 22 = .ok (.aload_n 1, 1) := by decide +kernel
theorem dX2_playYear_23 : decode cX2_playYear 23 = .ok (.iload 6, 2) := by decide +kernel
theorem dX2_playYear_25 : decode cX2_playYear 25 = .ok (.invokevirtual 69, 3) := by decide +kernel
theorem dX2_playYear_28 : decode cX2_playYear 28 = .ok (.ifCond .eq 13, 3) := by decide +kernel
theorem dX2_playYear_31 : decode cX2_playYear 31 = .ok (.iload 4, 2) := by decide +kernel
theorem dX2_playYear_33 : decode cX2_playYear 33 = .ok (.iload 6, 2) := by decide +kernel
theorem dX2_playYear_35 : decode cX2_playYear 35 = .ok (.invokestatic 75, 3) := by decide +kernel
theorem dX2_playYear_38 : decode cX2_playYear 38 = .ok (.ifCond .eq 5, 3) := by decide +kernel
theorem dX2_playYear_41 : decode cX2_playYear 41 = .ok (.iconst 0, 1) := by decide +kernel
theorem dX2_playYear_42 : decode cX2_playYear 42 = .ok (.ireturn, 1) := by decide +kernel
theorem dX2_playYear_43 : decode cX2_playYear 43 = .ok (.iload 4, 2) := by decide +kernel
theorem dX2_playYear_45 : decode cX2_playYear 45 = .ok (.iconst 1, 1) := by decide +kernel
theorem dX2_playYear_46 : decode cX2_playYear 46 = .ok (.iload 6, 2) := by decide +kernel
theorem dX2_playYear_48 : decode cX2_playYear 48 = .ok (.ishl, 1) := by decide +kernel
theorem dX2_playYear_49 : decode cX2_playYear 49 = .ok (.ior, 1) := by decide +kernel
theorem dX2_playYear_50 : decode cX2_playYear 50 = .ok (.istore 4, 2) := by decide +kernel
theorem dX2_playYear_52 : decode cX2_playYear 52 = .ok (.iinc 5 1, 3) := by decide +kernel
theorem dX2_playYear_55 : decode cX2_playYear 55 = .ok (.goto (-47), 3) := by decide +kernel
theorem dX2_playYear_58 : decode cX2_playYear 58 = .ok (.aload_n 1, 1) := by decide +kernel
theorem dX2_playYear_59 : decode cX2_playYear 59 = .ok (.getfield 78, 3) := by decide +kernel
theorem dX2_playYear_62 : decode cX2_playYear 62 = .ok (.bipush 99, 2) := by decide +kernel
theorem dX2_playYear_64 : decode cX2_playYear 64 = .ok (.if_icmp .lt 5, 3) := by decide +kernel
theorem dX2_playYear_67 : decode cX2_playYear 67 = .ok (.iconst 0, 1) := by decide +kernel
theorem dX2_playYear_68 : decode cX2_playYear 68 = .ok (.ireturn, 1) := by decide +kernel
theorem dX2_playYear_69 : decode cX2_playYear 69 = .ok (.aload_n 1, 1) := by decide +kernel
theorem dX2_playYear_70 : decode cX2_playYear 70 = .ok (.iload 4, 2) := by decide +kernel
theorem dX2_playYear_72 : decode cX2_playYear 72 = .ok (.invokevirtual 81, 3) := by decide +kernel
theorem dX2_playYear_75 : decode cX2_playYear 75 = .ok (.pop, 1) := by decide +kernel
theorem dX2_playYear_76 : decode cX2_playYear 76 = .ok (.iconst 1, 1) := by decide +kernel
theorem dX2_playYear_77 : decode cX2_playYear 77 = .ok (.ireturn, 1) := by decide +kernel
theorem dX2_letterAt_0 : decode cX2_letterAt 0 = .ok (.iload_n 1, 1) := by decide +kernel
theorem dX2_letterAt_1 : decode cX2_letterAt 1 = .ok (.ifCond .lt 26, 3) := by decide +kernel
theorem dX2_letterAt_4 : decode cX2_letterAt 4 = .ok (.iload_n 1, 1) := by decide +kernel
theorem dX2_letterAt_5 : decode cX2_letterAt 5 = .ok (.aload_n 0, 1) := by decide +kernel
theorem dX2_letterAt_6 : decode cX2_letterAt 6 = .ok (.getfield 15, 3) := by decide +kernel
theorem dX2_letterAt_9 : decode cX2_letterAt 9 = .ok (.if_icmp .ge 18, 3) := by decide +kernel
theorem dX2_letterAt_12 : decode cX2_letterAt 12 = .ok (.iload_n 1, 1) := by decide +kernel
theorem dX2_letterAt_13 : decode cX2_letterAt 13 = .ok (.bipush 80, 2) := by decide +kernel
theorem dX2_letterAt_15 : decode cX2_letterAt 15 = .ok (.if_icmp .ge 12, 3) := by decide +kernel
theorem dX2_letterAt_18 : decode cX2_letterAt 18 = .ok (.aload_n 0, 1) := by decide +kernel
theorem dX2_letterAt_19 : decode cX2_letterAt 19 = .ok (.getfield 9, 3) := by decide +kernel
theorem dX2_letterAt_22 : decode cX2_letterAt 22 = .ok (.iload_n 1, 1) := by decide +kernel
theorem dX2_letterAt_23 : decode cX2_letterAt 23 = .ok (.iaload, 1) := by decide +kernel
theorem dX2_letterAt_24 : decode cX2_letterAt 24 = .ok (.goto 4, 3) := by decide +kernel
theorem dX2_letterAt_27 : decode cX2_letterAt 27 = .ok (.iconst (-1), 1) := by decide +kernel
theorem dX2_letterAt_28 : decode cX2_letterAt 28 = .ok (.ireturn, 1) := by decide +kernel
set_option maxRecDepth 20000 in
theorem ggX2_digitAt_X2_letterAt : GoodIn wsX2_digitAt wsX2_letterAt := goodIn_r _ [5, 6, 7, 8, 9] (by decide +kernel) (by decide +kernel)
set_option maxRecDepth 20000 in
theorem gX2_digitAt_X2_letterAt : GoodIn wsX2_digitAt (wsV RX2 19 RX2 yX2_letterAt wsX2_letterAt) := goodIn_app (goodIn_of _ (by decide +kernel)) ggX2_digitAt_X2_letterAt
theorem dX2_digitAt_0 : decode cX2_digitAt 0 = .ok (.aload_n 0, 1) := by decide +kernel
theorem dX2_digitAt_1 : decode cX2_digitAt 1 = .ok (.iload_n 1, 1) := by decide +kernel
theorem dX2_digitAt_2 : decode cX2_digitAt 2 = .ok (.invokevirtual 19, 3) := by decide +kernel
theorem dX2_digitAt_5 : decode cX2_digitAt 5 = .ok (.bipush 48, 2) := by decide +kernel
theorem dX2_digitAt_7 : decode cX2_digitAt 7 = .ok (.isub, 1) := by decide +kernel
theorem dX2_digitAt_8 : decode cX2_digitAt 8 = .ok (.ireturn, 1) := by decide +kernel
theorem dX2_isDigit_0 : decode cX2_isDigit 0 = .ok (.iload_n 0, 1) := by decide +kernel
theorem dX2_isDigit_1 : decode cX2_isDigit 1 = .ok (.bipush 48, 2) := by decide +kernel
theorem dX2_isDigit_3 : decode cX2_isDigit 3 = .ok (.if_icmp .lt 13, 3) := by decide +kernel
theorem dX2_isDigit_6 : decode cX2_isDigit 6 = .ok (.iload_n 0, 1) := by decide +kernel
theorem dX2_isDigit_7 : decode cX2_isDigit 7 = .ok (.bipush 57, 2) := by decide +kernel
theorem dX2_isDigit_9 : decode cX2_isDigit 9 = .ok (.if_icmp .gt 7, 3) := by decide +kernel
theorem dX2_isDigit_12 : decode cX2_isDigit 12 = .ok (.iconst 1, 1) := by decide +kernel
theorem dX2_isDigit_13 : decode cX2_isDigit 13 = .ok (.goto 4, 3) := by decide +kernel
theorem dX2_isDigit_16 : decode cX2_isDigit 16 = .ok (.iconst 0, 1) := by decide +kernel
theorem dX2_isDigit_17 : decode cX2_isDigit 17 = .ok (.ireturn, 1) := by decide +kernel
theorem dX3_init_0 : decode cX3_init 0 = .ok (.aload_n 0, 1) := by decide +kernel
theorem dX3_init_1 : decode cX3_init 1 = .ok (.invokespecial 3, 3) := by decide +kernel
theorem dX3_init_4 : decode cX3_init 4 = .ok (.aload_n 0, 1) := by decide +kernel
theorem dX3_init_5 : decode cX3_init 5 = .ok (.bipush 8, 2) := by decide +kernel
theorem dX3_init_7 : decode cX3_init 7 = .ok (.newarray .int, 2) := by decide +kernel
theorem dX3_init_9 : decode cX3_init 9 = .ok (.putfield 9, 3) := by decide +kernel
theorem dX3_init_12 : decode cX3_init 12 = .ok (.aload_n 0, 1) := by decide +kernel
theorem dX3_init_13 : decode cX3_init 13 = .ok (.bipush 8, 2) := by decide +kernel
theorem dX3_init_15 : decode cX3_init 15 = .ok (.newarray .int, 2) := by decide +kernel
theorem dX3_init_17 : decode cX3_init 17 = .ok (.putfield 15, 3) := by decide +kernel
theorem dX3_init_20 : decode cX3_init 20 = .ok (.aload_n 0, 1) := by decide +kernel
theorem dX3_init_21 : decode cX3_init 21 = .ok (.bipush 8, 2) := by decide +kernel
theorem dX3_init_23 : decode cX3_init 23 = .ok (.newarray .int, 2) := by decide +kernel
theorem dX3_init_25 : decode cX3_init 25 = .ok (.putfield 18, 3) := by decide +kernel
theorem dX3_init_28 : decode cX3_init 28 = .ok (.aload_n 0, 1) := by decide +kernel
theorem dX3_init_29 : decode cX3_init 29 = .ok (.bipush 8, 2) := by decide +kernel
theorem dX3_init_31 : decode cX3_init 31 = .ok (.newarray .int, 2) := by decide +kernel
theorem dX3_init_33 : decode cX3_init 33 = .ok (.putfield 21, 3) := by decide +kernel
theorem dX3_init_36 : decode cX3_init 36 = .ok (.aload_n 0, 1) := by decide +kernel
theorem dX3_init_37 : decode cX3_init 37 = .ok (.bipush 8, 2) := by decide +kernel
theorem dX3_init_39 : decode cX3_init 39 = .ok (.newarray .int, 2) := by decide +kernel
theorem dX3_init_41 : decode cX3_init 41 = .ok (.putfield 24, 3) := by decide +kernel
theorem dX3_init_44 : decode cX3_init 44 = .ok (.return_, 1) := by decide +kernel
theorem dX3_becomeLike_0 : decode cX3_becomeLike 0 = .ok (.iconst 0, 1) := by decide +kernel
theorem dX3_becomeLike_1 : decode cX3_becomeLike 1 = .ok (.istore_n 2, 1) := by decide +kernel
theorem dX3_becomeLike_2 : decode cX3_becomeLike 2 = .ok (.iload_n 2, 1) := by decide +kernel
theorem dX3_becomeLike_3 : decode cX3_becomeLike 3 = .ok (.bipush 8, 2) := by decide +kernel
theorem dX3_becomeLike_5 : decode cX3_becomeLike 5 = .ok (.if_icmp .ge 69, 3) := by decide +kernel
theorem dX3_becomeLike_8 : decode cX3_becomeLike 8 = .ok (.aload_n 0, 1) := by decide +kernel
theorem dX3_becomeLike_9 : decode cX3_becomeLike 9 = .ok (.getfield 9, 3) := by decide +kernel
theorem dX3_becomeLike_12 : decode cX3_becomeLike 12 = .ok (.iload_n 2, 1) := by decide +kernel
theorem dX3_becomeLike_13 : decode cX3_becomeLike 13 = .ok (.aload_n 1, 1) := by decide +kernel
theorem dX3_becomeLike_14 : decode cX3_becomeLike 14 = .ok (.getfield 9, 3) := by decide +kernel
theorem dX3_becomeLike_17 : decode cX3_becomeLike 17 = .ok (.iload_n 2, 1) := by decide +kernel
theorem dX3_becomeLike_18 : decode cX3_becomeLike 18 = .ok (.iaload, 1) := by decide +kernel
theorem dX3_becomeLike_19 : decode cX3_becomeLike 19 = .ok (.iastore, 1) := by decide +kernel
theorem dX3_becomeLike_20 : decode cX3_becomeLike 20 = .ok (.aload_n 0, 1) := by decide +kernel
theorem dX3_becomeLike_21 : decode cX3_becomeLike 21 = .ok (.getfield 15, 3) := by decide +kernel
theorem dX3_becomeLike_24 : decode cX3_becomeLike 24 = .ok (.iload_n 2, 1) := by decide +kernel
theorem dX3_becomeLike_25 : decode cX3_becomeLike 25 = .ok (.aload_n 1, 1) := by decide +kernel
theorem dX3_becomeLike_26 : decode cX3_becomeLike 26 = .ok (.getfield 15, 3) := by decide +kernel
theorem dX3_becomeLike_29 : decode cX3_becomeLike 29 = .ok (.iload_n 2, 1) := by decide +kernel
theorem dX3_becomeLike_30 : decode cX3_becomeLike 30 = .ok (.iaload, 1) := by decide +kernel
theorem dX3_becomeLike_31 : decode cX3_becomeLike 31 = .ok (.iastore, 1) := by decide +kernel
theorem dX3_becomeLike_32 : decode cX3_becomeLike 32 = .ok (.aload_n 0, 1) := by decide +kernel
theorem dX3_becomeLike_33 : decode cX3_becomeLike 33 = .ok (.getfield 18, 3) := by decide +kernel
theorem dX3_becomeLike_36 : decode cX3_becomeLike 36 = .ok (.iload_n 2, 1) := by decide +kernel
theorem dX3_becomeLike_37 : decode cX3_becomeLike 37 = .ok (.aload_n 1, 1) := by decide +kernel
theorem dX3_becomeLike_38 : decode cX3_becomeLike 38 = .ok (.getfield 18, 3) := by decide +kernel
theorem dX3_becomeLike_41 : decode cX3_becomeLike 41 = .ok (.iload_n 2, 1) := by decide +kernel
theorem dX3_becomeLike_42 : decode cX3_becomeLike 42 = .ok (.iaload, 1) := by decide +kernel
theorem dX3_becomeLike_43 : decode cX3_becomeLike 43 = .ok (.iastore, 1) := by decide +kernel
theorem dX3_becomeLike_44 : decode cX3_becomeLike 44 = .ok (.aload_n 0, 1) := by decide +kernel
theorem dX3_becomeLike_45 : decode cX3_becomeLike 45 = .ok (.getfield 21, 3) := by decide +kernel
theorem dX3_becomeLike_48 : decode cX3_becomeLike 48 = .ok (.iload_n 2, 1) := by decide +kernel
theorem dX3_becomeLike_49 : decode cX3_becomeLike 49 = .ok (.aload_n 1, 1) := by decide +kernel
theorem dX3_becomeLike_50 : decode cX3_becomeLike 50 = .ok (.getfield 21, 3) := by decide +kernel
theorem dX3_becomeLike_53 : decode cX3_becomeLike 53 = .ok (.iload_n 2, 1) := by decide +kernel
theorem dX3_becomeLike_54 : decode cX3_becomeLike 54 = .ok (.iaload, 1) := by decide +kernel
theorem dX3_becomeLike_55 : decode cX3_becomeLike 55 = .ok (.iastore, 1) := by decide +kernel
theorem dX3_becomeLike_56 : decode cX3_becomeLike 56 = .ok (.aload_n 0, 1) := by decide +kernel
theorem dX3_becomeLike_57 : decode cX3_becomeLike 57 = .ok (.getfield 24, 3) := by decide +kernel
theorem dX3_becomeLike_60 : decode cX3_becomeLike 60 = .ok (.iload_n 2, 1) := by decide +kernel
theorem dX3_becomeLike_61 : decode cX3_becomeLike 61 = .ok (.aload_n 1, 1) := by decide +kernel
theorem dX3_becomeLike_62 : decode cX3_becomeLike 62 = .ok (.getfield 24, 3) := by decide +kernel
theorem dX3_becomeLike_65 : decode cX3_becomeLike 65 = .ok (.iload_n 2, 1) := by decide +kernel
theorem dX3_becomeLike_66 : decode cX3_becomeLike 66 = .ok (.iaload, 1) := by decide +kernel
theorem dX3_becomeLike_67 : decode cX3_becomeLike 67 = .ok (.iastore, 1) := by decide +kernel
theorem dX3_becomeLike_68 : decode cX3_becomeLike 68 = .ok (.iinc 2 1, 3) := by decide +kernel
theorem dX3_becomeLike_71 : decode cX3_becomeLike 71 = .ok (.goto (-69), 3) := by decide +kernel
theorem dX3_becomeLike_74 : decode cX3_becomeLike 74 = .ok (.aload_n 0, 1) := by decide +kernel
theorem dX3_becomeLike_75 : decode cX3_becomeLike 75 = .ok (.aload_n 1, 1) := by decide +kernel
theorem dX3_becomeLike_76 : decode cX3_becomeLike 76 = .ok (.getfield 27, 3) := by decide +kernel
theorem dX3_becomeLike_79 : decode cX3_becomeLike 79 = .ok (.putfield 27, 3) := by decide +kernel
theorem dX3_becomeLike_82 : decode cX3_becomeLike 82 = .ok (.aload_n 0, 1) := by decide +kernel
theorem dX3_becomeLike_83 : decode cX3_becomeLike 83 = .ok (.aload_n 1, 1) := by decide +kernel
theorem dX3_becomeLike_84 : decode cX3_becomeLike 84 = .ok (.getfield 31, 3) := by decide +kernel
theorem dX3_becomeLike_87 : decode cX3_becomeLike 87 = .ok (.putfield 31, 3) := by decide +kernel
theorem dX3_becomeLike_90 : decode cX3_becomeLike 90 = .ok (.return_, 1) := by decide +kernel
theorem dX3_isFull_0 : decode cX3_isFull 0 = .ok (.aload_n 0, 1) := by decide +kernel
theorem dX3_isFull_1 : decode cX3_isFull 1 = .ok (.getfield 27, 3) := by decide +kernel
theorem dX3_isFull_4 : decode cX3_isFull 4 = .ok (.bipush 8, 2) := by decide +kernel
theorem dX3_isFull_6 : decode cX3_isFull 6 = .ok (.if_icmp .lt 7, 3) := by decide +kernel
theorem dX3_isFull_9 : decode cX3_isFull 9 = .ok (.iconst 1, 1) := by decide +kernel
theorem dX3_isFull_10 : decode cX3_isFull 10 = .ok (.goto 4, 3) := by decide +kernel
theorem dX3_isFull_13 : decode cX3_isFull 13 = .ok (.iconst 0, 1) := by decide +kernel
theorem dX3_isFull_14 : decode cX3_isFull 14 = .ok (.ireturn, 1) := by decide +kernel
theorem dX3_isAlive_0 : decode cX3_isAlive 0 = .ok (.iload_n 1, 1) := by decide +kernel
theorem dX3_isAlive_1 : decode cX3_isAlive 1 = .ok (.ifCond .lt 31, 3) := by decide +kernel
theorem dX3_isAlive_4 : decode cX3_isAlive 4 = .ok (.iload_n 1, 1) := by decide +kernel
theorem dX3_isAlive_5 : decode cX3_isAlive 5 = .ok (.bipush 8, 2) := by decide +kernel
theorem dX3_isAlive_7 : decode cX3_isAlive 7 = .ok (.if_icmp .ge 25, 3) := by decide +kernel
theorem dX3_isAlive_10 : decode cX3_isAlive 10 = .ok (.iload_n 1, 1) := by decide +kernel
theorem dX3_isAlive_11 : decode cX3_isAlive 11 = .ok (.aload_n 0, 1) := by decide +kernel
theorem dX3_isAlive_12 : decode cX3_isAlive 12 = .ok (.getfield 27, 3) := by decide +kernel
theorem dX3_isAlive_15 : decode cX3_isAlive 15 = .ok (.if_icmp .ge 17, 3) := by decide +kernel
theorem dX3_isAlive_18 : decode cX3_isAlive 18 = .ok (.aload_n 0, 1) := by decide +kernel
theorem dX3_isAlive_19 : decode cX3_isAlive 19 = .ok (.getfield 18, 3) := by decide +kernel
theorem dX3_isAlive_22 : decode cX3_isAlive 22 = .ok (.iload_n 1, 1) := by decide +kernel
theorem dX3_isAlive_23 : decode cX3_isAlive 23 = .ok (.iaload, 1) := by decide +kernel
theorem dX3_isAlive_24 : decode cX3_isAlive 24 = .ok (.iconst (-1), 1) := by decide +kernel
theorem dX3_isAlive_25 : decode cX3_isAlive 25 = .ok (.if_icmp .eq 7, 3) := by decide +kernel
theorem dX3_isAlive_28 : decode cX3_isAlive 28 = .ok (.iconst 1, 1) := by decide +kernel
theorem dX3_isAlive_29 : decode cX3_isAlive 29 = .ok (.goto 4, 3) := by decide +kernel
theorem dX3_isAlive_32 : decode cX3_isAlive 32 = .ok (.iconst 0, 1) := by decide +kernel
theorem dX3_isAlive_33 : decode cX3_isAlive 33 = .ok (.ireturn, 1) := by decide +kernel
set_option maxRecDepth 20000 in
theorem ggX3_areAlive_X3_living : GoodIn wsX3_areAlive wsX3_living := goodIn_r _ [5, 6, 7, 8, 4, 9, 10, 11, 12, 13, 14, 15, 16, 17, 18] (by decide +kernel) (by decide +kernel)
set_option maxRecDepth 20000 in
theorem gX3_areAlive_X3_living : GoodIn wsX3_areAlive (wsV RX3 34 RX3 yX3_living wsX3_living) := goodIn_app (goodIn_of _ (by decide +kernel)) ggX3_areAlive_X3_living
theorem dX3_areAlive_0 : decode cX3_areAlive 0 = .ok (.iload_n 1, 1) := by decide +kernel
theorem dX3_areAlive_1 : decode cX3_areAlive 1 = .ok (.aload_n 0, 1) := by decide +kernel
theorem dX3_areAlive_2 : decode cX3_areAlive 2 = .ok (.invokevirtual 34, 3) := by decide +kernel
theorem dX3_areAlive_5 : decode cX3_areAlive 5 = .ok (.iconst (-1), 1) := by decide +kernel
theorem dX3_areAlive_6 : decode cX3_areAlive 6 = .ok (.ixor, 1) := by decide +kernel
theorem dX3_areAlive_7 : decode cX3_areAlive 7 = .ok (.iand, 1) := by decide +kernel
theorem dX3_areAlive_8 : decode cX3_areAlive 8 = .ok (.ifCond .ne 7, 3) := by decide +kernel
theorem dX3_areAlive_11 : decode cX3_areAlive 11 = .ok (.iconst 1, 1) := by decide +kernel
theorem dX3_areAlive_12 : decode cX3_areAlive 12 = .ok (.goto 4, 3) := by decide +kernel
theorem dX3_areAlive_15 : decode cX3_areAlive 15 = .ok (.iconst 0, 1) := by decide +kernel
theorem dX3_areAlive_16 : decode cX3_areAlive 16 = .ok (.ireturn, 1) := by decide +kernel
set_option maxRecDepth 20000 in
theorem ggX3_living_X3_isAlive : GoodIn wsX3_living wsX3_isAlive := goodIn_r _ [5, 6, 7, 8, 9, 10, 11, 12, 13, 14] (by decide +kernel) (by decide +kernel)
set_option maxRecDepth 20000 in
theorem gX3_living_X3_isAlive : GoodIn wsX3_living (wsV RX3 38 RX3 yX3_isAlive wsX3_isAlive) := goodIn_app (goodIn_of _ (by decide +kernel)) ggX3_living_X3_isAlive
theorem dX3_living_0 : decode cX3_living 0 = .ok (.iconst 0, 1) := by decide +kernel
theorem dX3_living_1 : decode cX3_living 1 = .ok (.istore_n 1, 1) := by decide +kernel
theorem dX3_living_2 : decode cX3_living 2 = .ok (.iconst 0, 1) := by decide +kernel
theorem dX3_living_3 : decode cX3_living 3 = .ok (.istore_n 2, 1) := by decide +kernel
theorem dX3_living_4 : decode cX3_living 4 = .ok (.iload_n 2, 1) := by decide +kernel
theorem dX3_living_5 : decode cX3_living 5 = .ok (.bipush 8, 2) := by decide +kernel
theorem dX3_living_7 : decode cX3_living 7 = .ok (.if_icmp .ge 23, 3) := by decide +kernel
theorem dX3_living_10 : decode cX3_living 10 = .ok (.aload_n 0, 1) := by decide +kernel
theorem dX3_living_11 : decode cX3_living 11 = .ok (.iload_n 2, 1) := by decide +kernel
theorem dX3_living_12 : decode cX3_living 12 = .ok (.invokevirtual 38, 3) := by decide +kernel
theorem dX3_living_15 : decode cX3_living 15 = .ok (.ifCond .eq 9, 3) := by decide +kernel
theorem dX3_living_18 : decode cX3_living 18 = .ok (.iload_n 1, 1) := by decide +kernel
theorem dX3_living_19 : decode cX3_living 19 = .ok (.iconst 1, 1) := by decide +kernel
theorem dX3_living_20 : decode cX3_living 20 = .ok (.iload_n 2, 1) := by decide +kernel
theorem dX3_living_21 : decode cX3_living 21 = .ok (.ishl, 1) := by decide +kernel
theorem dX3_living_22 : decode cX3_living 22 = .ok (.ior, 1) := by decide +kernel
theorem dX3_living_23 : decode cX3_living 23 = .ok (.istore_n 1, 1) := by decide +kernel
theorem dX3_living_24 : decode cX3_living 24 = .ok (.iinc 2 1, 3) := by decide +kernel
theorem dX3_living_27 : decode cX3_living 27 = .ok (.goto (-23), 3) := by decide +kernel
theorem dX3_living_30 : decode cX3_living 30 = .ok (.iload_n 1, 1) := by decide +kernel
theorem dX3_living_31 : decode cX3_living 31 = .ok (.ireturn, 1) := by decide +kernel
set_option maxRecDepth 20000 in
theorem ggX3_whoLivesOn_X3_isAlive : GoodIn wsX3_whoLivesOn wsX3_isAlive := goodIn_r _ [6, 7, 1, 8, 9, 10, 11, 12, 13, 14] (by decide +kernel) (by decide +kernel)
set_option maxRecDepth 20000 in
theorem gX3_whoLivesOn_X3_isAlive : GoodIn wsX3_whoLivesOn (wsV RX3 38 RX3 yX3_isAlive wsX3_isAlive) := goodIn_app (goodIn_of _ (by decide +kernel)) ggX3_whoLivesOn_X3_isAlive
theorem dX3_whoLivesOn_0 : decode cX3_whoLivesOn 0 = .ok (.iconst 0, 1) := by decide +kernel
theorem dX3_whoLivesOn_1 : decode cX3_whoLivesOn 1 = .ok (.istore_n 2, 1) := by decide +kernel
theorem dX3_whoLivesOn_2 : decode cX3_whoLivesOn 2 = .ok (.iload_n 2, 1) := by decide +kernel
theorem dX3_whoLivesOn_3 : decode cX3_whoLivesOn 3 = .ok (.bipush 8, 2) := by decide +kernel
theorem dX3_whoLivesOn_5 : decode cX3_whoLivesOn 5 = .ok (.if_icmp .ge 29, 3) := by decide +kernel
theorem dX3_whoLivesOn_8 : decode cX3_whoLivesOn 8 = .ok (.aload_n 0, 1) := by decide +kernel
theorem dX3_whoLivesOn_9 : decode cX3_whoLivesOn 9 = .ok (.iload_n 2, 1) := by decide +kernel
theorem dX3_whoLivesOn_10 : decode cX3_whoLivesOn 10 = .ok (.invokevirtual 38, 3) := by decide +kernel
theorem dX3_whoLivesOn_13 : decode cX3_whoLivesOn 13 = .ok (.ifCond .eq 15, 3) := by decide +kernel
theorem dX3_whoLivesOn_16 : decode cX3_whoLivesOn 16 = .ok (.aload_n 0, 1) := by decide +kernel
theorem dX3_whoLivesOn_17 : decode cX3_whoLivesOn 17 = .ok (.getfield 18, 3) := by decide +kernel
theorem dX3_whoLivesOn_20 : decode cX3_whoLivesOn 20 = .ok (.iload_n 2, 1) := by decide +kernel
theorem dX3_whoLivesOn_21 : decode cX3_whoLivesOn 21 = .ok (.iaload, 1) := by decide +kernel
theorem dX3_whoLivesOn_22 : decode cX3_whoLivesOn 22 = .ok (.iload_n 1, 1) := by decide +kernel
theorem dX3_whoLivesOn_23 : decode cX3_whoLivesOn 23 = .ok (.if_icmp .ne 5, 3) := by decide +kernel
theorem dX3_whoLivesOn_26 : decode cX3_whoLivesOn 26 = .ok (.iload_n 2, 1) := by decide +kernel
theorem dX3_whoLivesOn_27 : decode cX3_whoLivesOn 27 = .ok (.ireturn, 1) := by decide +kernel
theorem dX3_whoLivesOn_28 : decode cX3_whoLivesOn 28 = .ok (.iinc 2 1, 3) := by decide +kernel
theorem dX3_whoLivesOn_31 : decode cX3_whoLivesOn 31 = .ok (.goto (-29), 3) := by decide +kernel
theorem dX3_whoLivesOn_34 : decode cX3_whoLivesOn 34 = .ok (.iconst (-1), 1) := by decide +kernel
theorem dX3_whoLivesOn_35 : decode cX3_whoLivesOn 35 = .ok (.ireturn, 1) := by decide +kernel
set_option maxRecDepth 20000 in
theorem ggX3_sumOfLiving_X3_isAlive : GoodIn wsX3_sumOfLiving wsX3_isAlive := goodIn_r _ [5, 6, 7, 8, 9, 10, 11, 12, 13, 14] (by decide +kernel) (by decide +kernel)
set_option maxRecDepth 20000 in
theorem gX3_sumOfLiving_X3_isAlive : GoodIn wsX3_sumOfLiving (wsV RX3 38 RX3 yX3_isAlive wsX3_isAlive) := goodIn_app (goodIn_of _ (by decide +kernel)) ggX3_sumOfLiving_X3_isAlive
theorem dX3_sumOfLiving_0 : decode cX3_sumOfLiving 0 = .ok (.iconst 0, 1) := by decide +kernel
theorem dX3_sumOfLiving_1 : decode cX3_sumOfLiving 1 = .ok (.istore_n 2, 1) := by decide +kernel
theorem dX3_sumOfLiving_2 : decode cX3_sumOfLiving 2 = .ok (.iconst 0, 1) := by decide +kernel
theorem dX3_sumOfLiving_3 : decode cX3_sumOfLiving 3 = .ok (.istore_n 3, 1) := by decide +kernel
theorem dX3_sumOfLiving_4 : decode cX3_sumOfLiving 4 = .ok (.iload_n 3, 1) := by decide +kernel
theorem dX3_sumOfLiving_5 : decode cX3_sumOfLiving 5 = .ok (.bipush 8, 2) := by decide +kernel
theorem dX3_sumOfLiving_7 : decode cX3_sumOfLiving 7 = .ok (.if_icmp .ge 29, 3) := by decide +kernel
theorem dX3_sumOfLiving_10 : decode cX3_sumOfLiving 10 = .ok (.iload_n 3, 1) := by decide +kernel
theorem dX3_sumOfLiving_11 : decode cX3_sumOfLiving 11 = .ok (.aload_n 1, 1) := by decide +kernel
theorem dX3_sumOfLiving_12 : decode cX3_sumOfLiving 12 = .ok (.arraylength, 1) := by decide +kernel
theorem dX3_sumOfLiving_13 : decode cX3_sumOfLiving 13 = .ok (.if_icmp .ge 23, 3) := by decide +kernel
theorem dX3_sumOfLiving_16 : decode cX3_sumOfLiving 16 = .ok (.aload_n 0, 1) := by decide +kernel
theorem dX3_sumOfLiving_17 : decode cX3_sumOfLiving 17 = .ok (.iload_n 3, 1) := by decide +kernel
theorem dX3_sumOfLiving_18 : decode cX3_sumOfLiving 18 = .ok (.invokevirtual 38, 3) := by decide +kernel
theorem dX3_sumOfLiving_21 : decode cX3_sumOfLiving 21 = .ok (.ifCond .eq 9, 3) := by decide +kernel
theorem dX3_sumOfLiving_24 : decode cX3_sumOfLiving 24 = .ok (.iload_n 2, 1) := by decide +kernel
theorem dX3_sumOfLiving_25 : decode cX3_sumOfLiving 25 = .ok (.aload_n 1, 1) := by decide +kernel
theorem dX3_sumOfLiving_26 : decode cX3_sumOfLiving 26 = .ok (.iload_n 3, 1) := by decide +kernel
theorem dX3_sumOfLiving_27 : decode cX3_sumOfLiving 27 = .ok (.iaload, 1) := by decide +kernel
theorem dX3_sumOfLiving_28 : decode cX3_sumOfLiving 28 = .ok (.iadd, 1) := by decide +kernel
theorem dX3_sumOfLiving_29 : decode cX3_sumOfLiving 29 = .ok (.istore_n 2, 1) := by decide +kernel
theorem dX3_sumOfLiving_30 : decode cX3_sumOfLiving 30 = .ok (.iinc 3 1, 3) := by decide +kernel
theorem dX3_sumOfLiving_33 : decode cX3_sumOfLiving 33 = .ok (.goto (-29), 3) := by decide +kernel
theorem dX3_sumOfLiving_36 : decode cX3_sumOfLiving 36 = .ok (.iload_n 2, 1) := by decide +kernel
theorem dX3_sumOfLiving_37 : decode cX3_sumOfLiving 37 = .ok (.ireturn, 1) := by decide +kernel
set_option maxRecDepth 20000 in
theorem ggX3_couldComeIn_X3_isFull : GoodIn wsX3_couldComeIn wsX3_isFull := goodIn_r _ [5, 6, 24, 25, 26, 27, 28, 29, 30] (by decide +kernel) (by decide +kernel)
set_option maxRecDepth 20000 in
theorem gX3_couldComeIn_X3_isFull : GoodIn wsX3_couldComeIn (wsV RX3 42 RX3 yX3_isFull wsX3_isFull) := goodIn_app (goodIn_of _ (by decide +kernel)) ggX3_couldComeIn_X3_isFull
set_option maxRecDepth 20000 in
theorem ggX3_couldComeIn_X0_entryFloor : GoodIn wsX3_couldComeIn wsX0_entryFloor := goodIn_r _ [10, 11, 12, 13, 14] (by decide +kernel) (by decide +kernel)
set_option maxRecDepth 20000 in
theorem gX3_couldComeIn_X0_entryFloor : GoodIn wsX3_couldComeIn (va_wsS RX3 46 yX0_entryFloor wsX0_entryFloor) := goodIn_app (goodIn_of _ (by decide +kernel)) ggX3_couldComeIn_X0_entryFloor
set_option maxRecDepth 20000 in
theorem ggX3_couldComeIn_X3_whoLivesOn : GoodIn wsX3_couldComeIn wsX3_whoLivesOn := goodIn_r _ [18, 19, 20, 21, 22, 4, 23, 6, 24, 25, 26, 27, 28, 29, 30] (by decide +kernel) (by decide +kernel)
set_option maxRecDepth 20000 in
theorem gX3_couldComeIn_X3_whoLivesOn : GoodIn wsX3_couldComeIn (wsV RX3 52 RX3 yX3_whoLivesOn wsX3_whoLivesOn) := goodIn_app (goodIn_of _ (by decide +kernel)) ggX3_couldComeIn_X3_whoLivesOn
theorem dX3_couldComeIn_0 : decode cX3_couldComeIn 0 = .ok (.aload_n 0, 1) := by decide +kernel
theorem dX3_couldComeIn_1 : decode cX3_couldComeIn 1 = .ok (.invokevirtual 42, 3) := by decide +kernel
theorem dX3_couldComeIn_4 : decode cX3_couldComeIn 4 = .ok (.ifCond .ne 19, 3) := by decide +kernel
theorem dX3_couldComeIn_7 : decode cX3_couldComeIn 7 = .ok (.aload_n 0, 1) := by decide +kernel
theorem dX3_couldComeIn_8 : decode cX3_couldComeIn 8 = .ok (.iload_n 1, 1) := by decide +kernel
theorem dX3_couldComeIn_9 : decode cX3_couldComeIn 9 = .ok (.iload_n 2, 1) := by decide +kernel
theorem dX3_couldComeIn_10 : decode cX3_couldComeIn 10 = .ok (.invokestatic 46, 3) := by decide +kernel
theorem dX3_couldComeIn_13 : decode cX3_couldComeIn 13 = .ok (.invokevirtual 52, 3) := by decide +kernel
theorem dX3_couldComeIn_16 : decode cX3_couldComeIn 16 = .ok (.ifCond .ge 7, 3) := by decide +kernel
theorem dX3_couldComeIn_19 : decode cX3_couldComeIn 19 = .ok (.iconst 1, 1) := by decide +kernel
theorem dX3_couldComeIn_20 : decode cX3_couldComeIn 20 = .ok (.goto 4, 3) := by decide +kernel
theorem dX3_couldComeIn_23 : decode cX3_couldComeIn 23 = .ok (.iconst 0, 1) := by decide +kernel
theorem dX3_couldComeIn_24 : decode cX3_couldComeIn 24 = .ok (.ireturn, 1) := by decide +kernel
set_option maxRecDepth 20000 in
theorem ggX3_admit_X0_entryFloor : GoodIn wsX3_admit wsX0_entryFloor := goodIn_r _ [10, 11, 12, 13, 14] (by decide +kernel) (by decide +kernel)
set_option maxRecDepth 20000 in
theorem gX3_admit_X0_entryFloor : GoodIn wsX3_admit (va_wsS RX3 46 yX0_entryFloor wsX0_entryFloor) := goodIn_app (goodIn_of _ (by decide +kernel)) ggX3_admit_X0_entryFloor
theorem dX3_admit_0 : decode cX3_admit 0 = .ok (.aload_n 0, 1) := by decide +kernel
theorem dX3_admit_1 : decode cX3_admit 1 = .ok (.getfield 27, 3) := by decide +kernel
theorem dX3_admit_4 : decode cX3_admit 4 = .ok (.istore 4, 2) := by decide +kernel
theorem dX3_admit_6 : decode cX3_admit 6 = .ok (.iload 4, 2) := by decide +kernel
theorem dX3_admit_8 : decode cX3_admit 8 = .ok (.ifCond .lt 10, 3) := by decide +kernel
theorem dX3_admit_11 : decode cX3_admit 11 = .ok (.iload 4, 2) := by decide +kernel
theorem dX3_admit_13 : decode cX3_admit 13 = .ok (.bipush 8, 2) := by decide +kernel
theorem dX3_admit_15 : decode cX3_admit 15 = .ok (.if_icmp .lt 5, 3) := by decide +kernel
theorem dX3_admit_18 : decode cX3_admit 18 = .ok (.iconst (-1), 1) := by decide +kernel
theorem dX3_admit_19 : decode cX3_admit 19 = .ok (.ireturn, 1) := by decide +kernel
theorem dX3_admit_20 : decode cX3_admit 20 = .ok (.aload_n 0, 1) := by decide +kernel
theorem dX3_admit_21 : decode cX3_admit 21 = .ok (.getfield 9, 3) := by decide +kernel
theorem dX3_admit_24 : decode cX3_admit 24 = .ok (.iload 4, 2) := by decide +kernel
theorem dX3_admit_26 : decode cX3_admit 26 = .ok (.iload_n 1, 1) := by decide +kernel
theorem dX3_admit_27 : decode cX3_admit 27 = .ok (.iastore, 1) := by decide +kernel
theorem dX3_admit_28 : decode cX3_admit 28 = .ok (.aload_n 0, 1) := by decide +kernel
theorem dX3_admit_29 : decode cX3_admit 29 = .ok (.getfield 15, 3) := by decide +kernel
theorem dX3_admit_32 : decode cX3_admit 32 = .ok (.iload 4, 2) := by decide +kernel
theorem dX3_admit_34 : decode cX3_admit 34 = .ok (.iload_n 2, 1) := by decide +kernel
theorem dX3_admit_35 : decode cX3_admit 35 = .ok (.iastore, 1) := by decide +kernel
theorem dX3_admit_36 : decode cX3_admit 36 = .ok (.aload_n 0, 1) := by decide +kernel
theorem dX3_admit_37 : decode cX3_admit 37 = .ok (.getfield 18, 3) := by decide +kernel
theorem dX3_admit_40 : decode cX3_admit 40 = .ok (.iload 4, 2) := by decide +kernel
theorem dX3_admit_42 : decode cX3_admit 42 = .ok (.iload_n 1, 1) := by decide +kernel
theorem dX3_admit_43 : decode cX3_admit 43 = .ok (.iload_n 2, 1) := by decide +kernel
theorem dX3_admit_44 : decode cX3_admit 44 = .ok (.invokestatic 46, 3) := by decide +kernel
theorem dX3_admit_47 : decode cX3_admit 47 = .ok (.iastore, 1) := by decide +kernel
theorem dX3_admit_48 : decode cX3_admit 48 = .ok (.aload_n 0, 1) := by decide +kernel
theorem dX3_admit_49 : decode cX3_admit 49 = .ok (.getfield 21, 3) := by decide +kernel
theorem dX3_admit_52 : decode cX3_admit 52 = .ok (.iload 4, 2) := by decide +kernel
theorem dX3_admit_54 : decode cX3_admit 54 = .ok (.iload_n 3, 1) := by decide +kernel
theorem dX3_admit_55 : decode cX3_admit 55 = .ok (.iastore, 1) := by decide +kernel
theorem dX3_admit_56 : decode cX3_admit 56 = .ok (.aload_n 0, 1) := by decide +kernel
theorem dX3_admit_57 : decode cX3_admit 57 = .ok (.getfield 24, 3) := by decide +kernel
theorem dX3_admit_60 : decode cX3_admit 60 = .ok (.iload 4, 2) := by decide +kernel
theorem dX3_admit_62 : decode cX3_admit 62 = .ok (.iconst (-1), 1) := by decide +kernel
theorem dX3_admit_63 : decode cX3_admit 63 = .ok (.iastore, 1) := by decide +kernel
theorem dX3_admit_64 : decode cX3_admit 64 = .ok (.aload_n 0, 1) := by decide +kernel
theorem dX3_admit_65 : decode cX3_admit 65 = .ok (.dup, 1) := by decide +kernel
theorem dX3_admit_66 : decode cX3_admit 66 = .ok (.getfield 27, 3) := by decide +kernel
theorem dX3_admit_69 : decode cX3_admit 69 = .ok (.iconst 1, 1) := by decide +kernel
theorem dX3_admit_70 : decode cX3_admit 70 = .ok (.iadd, 1) := by decide +kernel
theorem dX3_admit_71 : decode cX3_admit 71 = .ok (.putfield 27, 3) := by decide +kernel
theorem dX3_admit_74 : decode cX3_admit 74 = .ok (.iload 4, 2) := by decide +kernel
theorem dX3_admit_76 : decode cX3_admit 76 = .ok (.ireturn, 1) := by decide +kernel
theorem dX3_wishTold_0 : decode cX3_wishTold 0 = .ok (.aload_n 0, 1) := by decide +kernel
theorem dX3_wishTold_1 : decode cX3_wishTold 1 = .ok (.getfield 24, 3) := by decide +kernel
theorem dX3_wishTold_4 : decode cX3_wishTold 4 = .ok (.iload_n 1, 1) := by decide +kernel
theorem dX3_wishTold_5 : decode cX3_wishTold 5 = .ok (.iaload, 1) := by decide +kernel
theorem dX3_wishTold_6 : decode cX3_wishTold 6 = .ok (.iconst (-1), 1) := by decide +kernel
theorem dX3_wishTold_7 : decode cX3_wishTold 7 = .ok (.if_icmp .ne 8, 3) := by decide +kernel
theorem dX3_wishTold_10 : decode cX3_wishTold 10 = .ok (.bipush (-9), 2) := by decide +kernel
theorem dX3_wishTold_12 : decode cX3_wishTold 12 = .ok (.goto 9, 3) := by decide +kernel
theorem dX3_wishTold_15 : decode cX3_wishTold 15 = .ok (.aload_n 0, 1) := by decide +kernel
theorem dX3_wishTold_16 : decode cX3_wishTold 16 = .ok (.getfield 24, 3) := by decide +kernel
theorem dX3_wishTold_19 : decode cX3_wishTold 19 = .ok (.iload_n 1, 1) := by decide +kernel
theorem dX3_wishTold_20 : decode cX3_wishTold 20 = .ok (.iaload, 1) := by decide +kernel
theorem dX3_wishTold_21 : decode cX3_wishTold 21 = .ok (.ireturn, 1) := by decide +kernel
set_option maxRecDepth 20000 in
theorem ggX3_chanceAfter_X3_ageAfter : GoodIn wsX3_chanceAfter wsX3_ageAfter := goodIn_r _ [6, 7, 8, 9, 10, 11, 26, 27, 28, 29, 30, 31, 32] (by decide +kernel) (by decide +kernel)
set_option maxRecDepth 20000 in
theorem gX3_chanceAfter_X3_ageAfter : GoodIn wsX3_chanceAfter (wsV RX3 56 RX3 yX3_ageAfter wsX3_ageAfter) := goodIn_app (goodIn_of _ (by decide +kernel)) ggX3_chanceAfter_X3_ageAfter
set_option maxRecDepth 20000 in
theorem ggX3_chanceAfter_X0_chance : GoodIn wsX3_chanceAfter wsX0_chance := goodIn_r _ [15, 16, 17, 10, 18, 19, 20, 14, 21, 22, 23, 24, 25, 9, 11] (by decide +kernel) (by decide +kernel)
set_option maxRecDepth 20000 in
theorem gX3_chanceAfter_X0_chance : GoodIn wsX3_chanceAfter (va_wsS RX3 59 yX0_chance wsX0_chance) := goodIn_app (goodIn_of _ (by decide +kernel)) ggX3_chanceAfter_X0_chance
theorem dX3_chanceAfter_0 : decode cX3_chanceAfter 0 = .ok (.aload_n 0, 1) := by decide +kernel
theorem dX3_chanceAfter_1 : decode cX3_chanceAfter 1 = .ok (.getfield 9, 3) := by decide +kernel
theorem dX3_chanceAfter_4 : decode cX3_chanceAfter 4 = .ok (.iload_n 1, 1) := by decide +kernel
theorem dX3_chanceAfter_5 : decode cX3_chanceAfter 5 = .ok (.iaload, 1) := by decide +kernel
theorem dX3_chanceAfter_6 : decode cX3_chanceAfter 6 = .ok (.aload_n 0, 1) := by decide +kernel
theorem dX3_chanceAfter_7 : decode cX3_chanceAfter 7 = .ok (.iload_n 1, 1) := by decide +kernel
theorem dX3_chanceAfter_8 : decode cX3_chanceAfter 8 = .ok (.iload_n 2, 1) := by decide +kernel
theorem dX3_chanceAfter_9 : decode cX3_chanceAfter 9 = .ok (.invokevirtual 56, 3) := by decide +kernel
theorem dX3_chanceAfter_12 : decode cX3_chanceAfter 12 = .ok (.invokestatic 59, 3) := by decide +kernel
theorem dX3_chanceAfter_15 : decode cX3_chanceAfter 15 = .ok (.ireturn, 1) := by decide +kernel
set_option maxRecDepth 20000 in
theorem ggX3_climbAfter_X3_ageAfter : GoodIn wsX3_climbAfter wsX3_ageAfter := goodIn_r _ [6, 7, 8, 9, 10, 11, 17, 18, 19, 20, 21, 22, 23] (by decide +kernel) (by decide +kernel)
set_option maxRecDepth 20000 in
theorem gX3_climbAfter_X3_ageAfter : GoodIn wsX3_climbAfter (wsV RX3 56 RX3 yX3_ageAfter wsX3_ageAfter) := goodIn_app (goodIn_of _ (by decide +kernel)) ggX3_climbAfter_X3_ageAfter
set_option maxRecDepth 20000 in
theorem ggX3_climbAfter_X0_climb : GoodIn wsX3_climbAfter wsX0_climb := goodIn_r _ [15, 16, 9, 10, 11] (by decide +kernel) (by decide +kernel)
set_option maxRecDepth 20000 in
theorem gX3_climbAfter_X0_climb : GoodIn wsX3_climbAfter (va_wsS RX3 62 yX0_climb wsX0_climb) := goodIn_app (goodIn_of _ (by decide +kernel)) ggX3_climbAfter_X0_climb
theorem dX3_climbAfter_0 : decode cX3_climbAfter 0 = .ok (.aload_n 0, 1) := by decide +kernel
theorem dX3_climbAfter_1 : decode cX3_climbAfter 1 = .ok (.getfield 9, 3) := by decide +kernel
theorem dX3_climbAfter_4 : decode cX3_climbAfter 4 = .ok (.iload_n 1, 1) := by decide +kernel
theorem dX3_climbAfter_5 : decode cX3_climbAfter 5 = .ok (.iaload, 1) := by decide +kernel
theorem dX3_climbAfter_6 : decode cX3_climbAfter 6 = .ok (.aload_n 0, 1) := by decide +kernel
theorem dX3_climbAfter_7 : decode cX3_climbAfter 7 = .ok (.iload_n 1, 1) := by decide +kernel
theorem dX3_climbAfter_8 : decode cX3_climbAfter 8 = .ok (.iload_n 2, 1) := by decide +kernel
theorem dX3_climbAfter_9 : decode cX3_climbAfter 9 = .ok (.invokevirtual 56, 3) := by decide +kernel
theorem dX3_climbAfter_12 : decode cX3_climbAfter 12 = .ok (.invokestatic 62, 3) := by decide +kernel
theorem dX3_climbAfter_15 : decode cX3_climbAfter 15 = .ok (.ireturn, 1) := by decide +kernel
set_option maxRecDepth 20000 in
theorem ggX3_isOutOfReach_X3_climbAfter : GoodIn wsX3_isOutOfReach wsX3_climbAfter := goodIn_r _ [6, 7, 8, 9, 10, 5, 11, 12, 13, 14, 15, 16, 17, 18, 19, 20, 21, 22, 23, 24, 25, 26, 27, 28] (by decide +kernel) (by decide +kernel)
set_option maxRecDepth 20000 in
theorem gX3_isOutOfReach_X3_climbAfter : GoodIn wsX3_isOutOfReach (wsV RX3 65 RX3 yX3_climbAfter wsX3_climbAfter) := goodIn_app (goodIn_of _ (by decide +kernel)) ggX3_isOutOfReach_X3_climbAfter
theorem dX3_isOutOfReach_0 : decode cX3_isOutOfReach 0 = .ok (.aload_n 0, 1) := by decide +kernel
theorem dX3_isOutOfReach_1 : decode cX3_isOutOfReach 1 = .ok (.getfield 18, 3) := by decide +kernel
theorem dX3_isOutOfReach_4 : decode cX3_isOutOfReach 4 = .ok (.iload_n 1, 1) := by decide +kernel
theorem dX3_isOutOfReach_5 : decode cX3_isOutOfReach 5 = .ok (.iaload, 1) := by decide +kernel
theorem dX3_isOutOfReach_6 : decode cX3_isOutOfReach 6 = .ok (.aload_n 0, 1) := by decide +kernel
theorem dX3_isOutOfReach_7 : decode cX3_isOutOfReach 7 = .ok (.iload_n 1, 1) := by decide +kernel
theorem dX3_isOutOfReach_8 : decode cX3_isOutOfReach 8 = .ok (.iload_n 2, 1) := by decide +kernel
theorem dX3_isOutOfReach_9 : decode cX3_isOutOfReach 9 = .ok (.invokevirtual 65, 3) := by decide +kernel
theorem dX3_isOutOfReach_12 : decode cX3_isOutOfReach 12 = .ok (.if_icmp .le 7, 3) := by decide +kernel
theorem dX3_isOutOfReach_15 : decode cX3_isOutOfReach 15 = .ok (.iconst 1, 1) := by decide +kernel
theorem dX3_isOutOfReach_16 : decode cX3_isOutOfReach 16 = .ok (.goto 4, 3) := by decide +kernel
theorem dX3_isOutOfReach_19 : decode cX3_isOutOfReach 19 = .ok (.iconst 0, 1) := by decide +kernel
theorem dX3_isOutOfReach_20 : decode cX3_isOutOfReach 20 = .ok (.ireturn, 1) := by decide +kernel
theorem dX3_staysDown_0 : decode cX3_staysDown 0 = .ok (.aload_n 0, 1) := by decide +kernel
theorem dX3_staysDown_1 : decode cX3_staysDown 1 = .ok (.getfield 9, 3) := by decide +kernel
theorem dX3_staysDown_4 : decode cX3_staysDown 4 = .ok (.iload_n 1, 1) := by decide +kernel
theorem dX3_staysDown_5 : decode cX3_staysDown 5 = .ok (.iaload, 1) := by decide +kernel
theorem dX3_staysDown_6 : decode cX3_staysDown 6 = .ok (.iconst 3, 1) := by decide +kernel
theorem dX3_staysDown_7 : decode cX3_staysDown 7 = .ok (.if_icmp .ne 16, 3) := by decide +kernel
theorem dX3_staysDown_10 : decode cX3_staysDown 10 = .ok (.aload_n 0, 1) := by decide +kernel
theorem dX3_staysDown_11 : decode cX3_staysDown 11 = .ok (.getfield 18, 3) := by decide +kernel
theorem dX3_staysDown_14 : decode cX3_staysDown 14 = .ok (.iload_n 1, 1) := by decide +kernel
theorem dX3_staysDown_15 : decode cX3_staysDown 15 = .ok (.iaload, 1) := by decide +kernel
theorem dX3_staysDown_16 : decode cX3_staysDown 16 = .ok (.ifCond .ne 7, 3) := by decide +kernel
theorem dX3_staysDown_19 : decode cX3_staysDown 19 = .ok (.iconst 1, 1) := by decide +kernel
theorem dX3_staysDown_20 : decode cX3_staysDown 20 = .ok (.goto 4, 3) := by decide +kernel
theorem dX3_staysDown_23 : decode cX3_staysDown 23 = .ok (.iconst 0, 1) := by decide +kernel
theorem dX3_staysDown_24 : decode cX3_staysDown 24 = .ok (.ireturn, 1) := by decide +kernel
set_option maxRecDepth 20000 in
theorem ggX3_floorsOf_X3_holds : GoodIn wsX3_floorsOf wsX3_holds := goodIn_r _ [5] (by decide +kernel) (by decide +kernel)
set_option maxRecDepth 20000 in
theorem gX3_floorsOf_X3_holds : GoodIn wsX3_floorsOf (va_wsS RX3 68 yX3_holds wsX3_holds) := goodIn_app (goodIn_of _ (by decide +kernel)) ggX3_floorsOf_X3_holds
theorem dX3_floorsOf_0 : decode cX3_floorsOf 0 = .ok (.iconst 0, 1) := by decide +kernel
theorem dX3_floorsOf_1 : decode cX3_floorsOf 1 = .ok (.istore_n 2, 1) := by decide +kernel
theorem dX3_floorsOf_2 : decode cX3_floorsOf 2 = .ok (.iconst 0, 1) := by decide +kernel
theorem dX3_floorsOf_3 : decode cX3_floorsOf 3 = .ok (.istore_n 3, 1) := by decide +kernel
theorem dX3_floorsOf_4 : decode cX3_floorsOf 4 = .ok (.iload_n 3, 1) := by decide +kernel
theorem dX3_floorsOf_5 : decode cX3_floorsOf 5 = .ok (.bipush 8, 2) := by decide +kernel
theorem dX3_floorsOf_7 : decode cX3_floorsOf 7 = .ok (.if_icmp .ge 28, 3) := by decide +kernel
theorem dX3_floorsOf_10 : decode cX3_floorsOf 10 = .ok (.iload_n 1, 1) := by decide +kernel
theorem dX3_floorsOf_11 : decode cX3_floorsOf 11 = .ok (.iload_n 3, 1) := by decide +kernel
theorem dX3_floorsOf_12 : decode cX3_floorsOf 12 = .ok (.invokestatic 68, 3) := by decide +kernel
theorem dX3_floorsOf_15 : decode cX3_floorsOf 15 = .ok (.ifCond .eq 14, 3) := by decide +kernel
theorem dX3_floorsOf_18 : decode cX3_floorsOf 18 = .ok (.iload_n 2, 1) := by decide +kernel
theorem dX3_floorsOf_19 : decode cX3_floorsOf 19 = .ok (.iconst 1, 1) := by decide +kernel
theorem dX3_floorsOf_20 : decode cX3_floorsOf 20 = .ok (.aload_n 0, 1) := by decide +kernel
theorem dX3_floorsOf_21 : decode cX3_floorsOf 21 = .ok (.getfield 18, 3) := by decide +kernel
theorem dX3_floorsOf_24 : decode cX3_floorsOf 24 = .ok (.iload_n 3, 1) := by decide +kernel
theorem dX3_floorsOf_25 : decode cX3_floorsOf 25 = .ok (.iaload, 1) := by decide +kernel
theorem dX3_floorsOf_26 : decode cX3_floorsOf 26 = .ok (.ishl, 1) := by decide +kernel
theorem dX3_floorsOf_27 : decode cX3_floorsOf 27 = .ok (.ior, 1) := by decide +kernel
theorem dX3_floorsOf_28 : decode cX3_floorsOf 28 = .ok (.istore_n 2, 1) := by decide +kernel
theorem dX3_floorsOf_29 : decode cX3_floorsOf 29 = .ok (.iinc 3 1, 3) := by decide +kernel
theorem dX3_floorsOf_32 : decode cX3_floorsOf 32 = .ok (.goto (-28), 3) := by decide +kernel
theorem dX3_floorsOf_35 : decode cX3_floorsOf 35 = .ok (.iload_n 2, 1) := by decide +kernel
theorem dX3_floorsOf_36 : decode cX3_floorsOf 36 = .ok (.ireturn, 1) := by decide +kernel
set_option maxRecDepth 20000 in
theorem ggX3_floorsUp_X3_staysDown : GoodIn wsX3_floorsUp wsX3_staysDown := goodIn_r _ [6, 7, 1, 15, 16, 17, 18, 19, 20, 21] (by decide +kernel) (by decide +kernel)
set_option maxRecDepth 20000 in
theorem gX3_floorsUp_X3_staysDown : GoodIn wsX3_floorsUp (wsV RX3 72 RX3 yX3_staysDown wsX3_staysDown) := goodIn_app (goodIn_of _ (by decide +kernel)) ggX3_floorsUp_X3_staysDown
set_option maxRecDepth 20000 in
theorem ggX3_floorsUp_J6_bitCount_0f7a4 : GoodIn wsX3_floorsUp wsJ6_bitCount_0f7a4 := goodIn_r _ [11, 12, 13, 14] (by decide +kernel) (by decide +kernel)
set_option maxRecDepth 20000 in
theorem gX3_floorsUp_J6_bitCount_0f7a4 : GoodIn wsX3_floorsUp (va_wsS RX3 75 yJ6_bitCount_0f7a4 wsJ6_bitCount_0f7a4) := goodIn_app (goodIn_of _ (by decide +kernel)) ggX3_floorsUp_J6_bitCount_0f7a4
theorem dX3_floorsUp_0 : decode cX3_floorsUp 0 = .ok (.aload_n 0, 1) := by decide +kernel
theorem dX3_floorsUp_1 : decode cX3_floorsUp 1 = .ok (.iload_n 1, 1) := by decide +kernel
theorem dX3_floorsUp_2 : decode cX3_floorsUp 2 = .ok (.invokevirtual 72, 3) := by decide +kernel
theorem dX3_floorsUp_5 : decode cX3_floorsUp 5 = .ok (.ifCond .eq 7, 3) := by decide +kernel
theorem dX3_floorsUp_8 : decode cX3_floorsUp 8 = .ok (.iconst 0, 1) := by decide +kernel
theorem dX3_floorsUp_9 : decode cX3_floorsUp 9 = .ok (.goto 16, 3) := by decide +kernel
theorem dX3_floorsUp_12 : decode cX3_floorsUp 12 = .ok (.iload_n 2, 1) := by decide +kernel
theorem dX3_floorsUp_13 : decode cX3_floorsUp 13 = .ok (.aload_n 0, 1) := by decide +kernel
theorem dX3_floorsUp_14 : decode cX3_floorsUp 14 = .ok (.getfield 18, 3) := by decide +kernel
theorem dX3_floorsUp_17 : decode cX3_floorsUp 17 = .ok (.iload_n 1, 1) := by decide +kernel
theorem dX3_floorsUp_18 : decode cX3_floorsUp 18 = .ok (.iaload, 1) := by decide +kernel
theorem dX3_floorsUp_19 : decode cX3_floorsUp 19 = .ok (.iconst 1, 1) := by decide +kernel
theorem dX3_floorsUp_20 : decode cX3_floorsUp 20 = .ok (.iadd, 1) := by decide +kernel
theorem dX3_floorsUp_21 : decode cX3_floorsUp 21 = .ok (.ishr, 1) := by decide +kernel
theorem dX3_floorsUp_22 : decode cX3_floorsUp 22 = .ok (.invokestatic 75, 3) := by decide +kernel
theorem dX3_floorsUp_25 : decode cX3_floorsUp 25 = .ok (.ireturn, 1) := by decide +kernel
set_option maxRecDepth 20000 in
theorem ggX3_passYear_X3_floorsOf : GoodIn wsX3_passYear wsX3_floorsOf := goodIn_r _ [8, 1, 9, 10, 7, 11, 45, 46, 47, 48, 49, 50, 51] (by decide +kernel) (by decide +kernel)
set_option maxRecDepth 20000 in
theorem gX3_passYear_X3_floorsOf : GoodIn wsX3_passYear (wsV RX3 80 RX3 yX3_floorsOf wsX3_floorsOf) := goodIn_app (goodIn_of _ (by decide +kernel)) ggX3_passYear_X3_floorsOf
set_option maxRecDepth 20000 in
theorem ggX3_passYear_X3_living : GoodIn wsX3_passYear wsX3_living := goodIn_r _ [15, 16, 17, 18, 7, 19, 20, 1, 45, 46, 47, 48, 49, 50, 51] (by decide +kernel) (by decide +kernel)
set_option maxRecDepth 20000 in
theorem gX3_passYear_X3_living : GoodIn wsX3_passYear (wsV RX3 34 RX3 yX3_living wsX3_living) := goodIn_app (goodIn_of _ (by decide +kernel)) ggX3_passYear_X3_living
set_option maxRecDepth 20000 in
theorem ggX3_passYear_X3_holds : GoodIn wsX3_passYear wsX3_holds := goodIn_r _ [11] (by decide +kernel) (by decide +kernel)
set_option maxRecDepth 20000 in
theorem gX3_passYear_X3_holds : GoodIn wsX3_passYear (va_wsS RX3 68 yX3_holds wsX3_holds) := goodIn_app (goodIn_of _ (by decide +kernel)) ggX3_passYear_X3_holds
set_option maxRecDepth 20000 in
theorem ggX3_passYear_X3_floorsUp : GoodIn wsX3_passYear wsX3_floorsUp := goodIn_r _ [24, 1, 25, 26, 27, 7, 28, 29, 30, 31, 32, 33, 34, 35, 36, 45, 46, 47, 48, 49, 50, 51] (by decide +kernel) (by decide +kernel)
set_option maxRecDepth 20000 in
theorem gX3_passYear_X3_floorsUp : GoodIn wsX3_passYear (wsV RX3 83 RX3 yX3_floorsUp wsX3_floorsUp) := goodIn_app (goodIn_of _ (by decide +kernel)) ggX3_passYear_X3_floorsUp
set_option maxRecDepth 20000 in
theorem ggX3_passYear_X3_ageAfter : GoodIn wsX3_passYear wsX3_ageAfter := goodIn_r _ [40, 2, 41, 42, 43, 44, 45, 46, 47, 48, 49, 50, 51] (by decide +kernel) (by decide +kernel)
set_option maxRecDepth 20000 in
theorem gX3_passYear_X3_ageAfter : GoodIn wsX3_passYear (wsV RX3 56 RX3 yX3_ageAfter wsX3_ageAfter) := goodIn_app (goodIn_of _ (by decide +kernel)) ggX3_passYear_X3_ageAfter
end
section
theorem dX3_passYear_0 : decode cX3_passYear 0 = .ok (.aload_n 0, 1) := by decide +kernel
theorem dX3_passYear_1 : decode cX3_passYear 1 = .ok (.iload_n 1, 1) := by decide +kernel
theorem dX3_passYear_2 : decode cX3_passYear 2 = .ok (.invokevirtual 80, 3) := by decide +kernel
theorem dX3_passYear_5 : decode cX3_passYear 5 = .ok (.istore_n 2, 1) := by decide +kernel
theorem dX3_passYear_6 : decode cX3_passYear 6 = .ok (.aload_n 0, 1) := by decide +kernel
theorem dX3_passYear_7 : decode cX3_passYear 7 = .ok (.invokevirtual 34, 3) := by decide +kernel
theorem dX3_passYear_10 : decode cX3_passYear 10 = .ok (.istore_n 3, 1) := by decide +kernel
theorem dX3_passYear_11 : decode cX3_passYear 11 = .ok (.iconst 0, 1) := by decide +kernel
theorem dX3_passYear_12 : decode cX3_passYear 12 = .ok (.istore 4, 2) := by decide +kernel
theorem dX3_passYear_14 : decode cX3_passYear 14 = .ok (.iconst 0, 1) := by decide +kernel
theorem dX3_passYear_15 : decode cX3_passYear 15 = .ok (.istore 5, 2) := by decide +kernel
theorem dX3_passYear_17 : decode cX3_passYear 17 = .ok (.iload 5, 2) := by decide +kernel
theorem dX3_passYear_19 : decode cX3_passYear 19 = .ok (.bipush 8, 2) := by decide +kernel
theorem dX3_passYear_21 : decode cX3_passYear 21 = .ok (.if_icmp .ge 91, 3) := by decide +kernel
theorem dX3_passYear_24 : decode cX3_passYear 24 = .ok (.iload_n 3, 1) := by decide +kernel
theorem dX3_passYear_25 : decode cX3_passYear 25 = .ok (.iload 5, 2) := by decide +kernel
theorem dX3_passYear_27 : decode cX3_passYear 27 = .ok (.invokestatic 68, 3) := by decide +kernel
theorem dX3_passYear_30 : decode cX3_passYear 30 = .ok (.ifCond .ne 6, 3) := by decide +kernel
theorem dX3_passYear_33 : decode cX3_passYear 33 = .ok (.goto 73, 3) := by decide +kernel
theorem dX3_passYear_36 : decode cX3_passYear 36 = .ok (.aload_n 0, 1) := by decide +kernel
theorem dX3_passYear_37 : decode cX3_passYear 37 = .ok (.iload 5, 2) := by decide +kernel
theorem dX3_passYear_39 : decode cX3_passYear 39 = .ok (.iload_n 2, 1) := by decide +kernel
theorem dX3_passYear_40 : decode cX3_passYear 40 = .ok (.invokevirtual 83, 3) := by decide +kernel
theorem dX3_passYear_43 : decode cX3_passYear 43 = .ok (.istore 6, 2) := by decide +kernel
theorem dX3_passYear_45 : decode cX3_passYear 45 = .ok (.iload_n 1, 1) := by decide +kernel
theorem dX3_passYear_46 : decode cX3_passYear 46 = .ok (.iload 5, 2) := by decide +kernel
theorem dX3_passYear_48 : decode cX3_passYear 48 = .ok (.invokestatic 68, 3) := by decide +kernel
theorem dX3_passYear_51 : decode cX3_passYear 51 = .ok (.istore 7, 2) := by decide +kernel
theorem dX3_passYear_53 : decode cX3_passYear 53 = .ok (.iload 7, 2) := by decide +kernel
theorem dX3_passYear_55 : decode cX3_passYear 55 = .ok (.ifCond .ne 11, 3) := by decide +kernel
theorem dX3_passYear_58 : decode cX3_passYear 58 = .ok (.iload 6, 2) := by decide +kernel
theorem dX3_passYear_60 : decode cX3_passYear 60 = .ok (.ifCond .le 6, 3) := by decide +kernel
theorem dX3_passYear_63 : decode cX3_passYear 63 = .ok (.iinc 4 1, 3) := by decide +kernel
theorem dX3_passYear_66 : decode cX3_passYear 66 = .ok (.aload_n 0, 1) := by decide +kernel
theorem dX3_passYear_67 : decode cX3_passYear 67 = .ok (.getfield 18, 3) := by decide +kernel
theorem dX3_passYear_70 : decode cX3_passYear 70 = .ok (.iload 5, 2) := by decide +kernel
theorem dX3_passYear_72 : decode cX3_passYear 72 = .ok (.iload 7, 2) := by decide +kernel
theorem dX3_passYear_74 : decode cX3_passYear 74 = .ok (.ifCond .eq 7, 3) := by decide +kernel
theorem dX3_passYear_77 : decode cX3_passYear 77 = .ok (.iconst (-1), 1) := by decide +kernel
theorem dX3_passYear_78 : decode cX3_passYear 78 = .ok (.goto 13, 3) := by decide +kernel
theorem dX3_passYear_81 : decode cX3_passYear 81 = .ok (.aload_n 0, 1) := by decide +kernel
theorem dX3_passYear_82 : decode cX3_passYear 82 = .ok (.getfield 18, 3) := by decide +kernel
theorem dX3_passYear_85 : decode cX3_passYear 85 = .ok (.iload 5, 2) := by decide +kernel
theorem dX3_passYear_87 : decode cX3_passYear 87 = .ok (.iaload, 1) := by decide +kernel
theorem dX3_passYear_88 : decode cX3_passYear 88 = .ok (.iload 6, 2) := by decide +kernel
theorem dX3_passYear_90 : decode cX3_passYear 90 = .ok (.iadd, 1) := by decide +kernel
theorem dX3_passYear_91 : decode cX3_passYear 91 = .ok (.iastore, 1) := by decide +kernel
theorem dX3_passYear_92 : decode cX3_passYear 92 = .ok (.aload_n 0, 1) := by decide +kernel
theorem dX3_passYear_93 : decode cX3_passYear 93 = .ok (.getfield 15, 3) := by decide +kernel
theorem dX3_passYear_96 : decode cX3_passYear 96 = .ok (.iload 5, 2) := by decide +kernel
theorem dX3_passYear_98 : decode cX3_passYear 98 = .ok (.aload_n 0, 1) := by decide +kernel
theorem dX3_passYear_99 : decode cX3_passYear 99 = .ok (.iload 5, 2) := by decide +kernel
theorem dX3_passYear_101 : decode cX3_passYear 101 = .ok (.iconst 1, 1) := by decide +kernel
theorem dX3_passYear_102 : decode cX3_passYear 102 = .ok (.invokevirtual 56, 3) := by decide +kernel
theorem dX3_passYear_105 : decode cX3_passYear 105 = .ok (.iastore, 1) := by decide +kernel
theorem dX3_passYear_106 : decode cX3_passYear 106 = .ok (.iinc 5 1, 3) := by decide +kernel
theorem dX3_passYear_109 : decode cX3_passYear 109 = .ok (.goto (-92), 3) := by decide +kernel
theorem dX3_passYear_112 : decode cX3_passYear 112 = .ok (.aload_n 0, 1) := by decide +kernel
theorem dX3_passYear_113 : decode cX3_passYear 113 = .ok (.dup, 1) := by decide +kernel
theorem dX3_passYear_114 : decode cX3_passYear 114 = .ok (.getfield 31, 3) := by decide +kernel
theorem dX3_passYear_117 : decode cX3_passYear 117 = .ok (.iconst 1, 1) := by decide +kernel
theorem dX3_passYear_118 : decode cX3_passYear 118 = .ok (.iadd, 1) := by decide +kernel
theorem dX3_passYear_119 : decode cX3_passYear 119 = .ok (.putfield 31, 3) := by decide +kernel
theorem dX3_passYear_122 : decode cX3_passYear 122 = .ok (.iload 4, 2) := by decide +kernel
theorem dX3_passYear_124 : decode cX3_passYear 124 = .ok (.ireturn, 1) := by decide +kernel
set_option maxRecDepth 20000 in
theorem ggX3_burden_X3_floorsOf : GoodIn wsX3_burden wsX3_floorsOf := goodIn_r _ [6, 7, 8, 9, 5, 10, 32, 33, 34, 35, 36, 37, 38] (by decide +kernel) (by decide +kernel)
set_option maxRecDepth 20000 in
theorem gX3_burden_X3_floorsOf : GoodIn wsX3_burden (wsV RX3 80 RX3 yX3_floorsOf wsX3_floorsOf) := goodIn_app (goodIn_of _ (by decide +kernel)) ggX3_burden_X3_floorsOf
set_option maxRecDepth 20000 in
theorem ggX3_burden_X3_isAlive : GoodIn wsX3_burden wsX3_isAlive := goodIn_r _ [14, 15, 7, 32, 33, 34, 35, 36, 37, 38] (by decide +kernel) (by decide +kernel)
set_option maxRecDepth 20000 in
theorem gX3_burden_X3_isAlive : GoodIn wsX3_burden (wsV RX3 38 RX3 yX3_isAlive wsX3_isAlive) := goodIn_app (goodIn_of _ (by decide +kernel)) ggX3_burden_X3_isAlive
set_option maxRecDepth 20000 in
theorem ggX3_burden_X3_holds : GoodIn wsX3_burden wsX3_holds := goodIn_r _ [10] (by decide +kernel) (by decide +kernel)
set_option maxRecDepth 20000 in
theorem gX3_burden_X3_holds : GoodIn wsX3_burden (va_wsS RX3 68 yX3_holds wsX3_holds) := goodIn_app (goodIn_of _ (by decide +kernel)) ggX3_burden_X3_holds
set_option maxRecDepth 20000 in
theorem ggX3_burden_X3_floorsUp : GoodIn wsX3_burden wsX3_floorsUp := goodIn_r _ [19, 7, 20, 21, 22, 5, 23, 24, 25, 26, 27, 28, 29, 30, 31, 32, 33, 34, 35, 36, 37, 38] (by decide +kernel) (by decide +kernel)
set_option maxRecDepth 20000 in
theorem gX3_burden_X3_floorsUp : GoodIn wsX3_burden (wsV RX3 83 RX3 yX3_floorsUp wsX3_floorsUp) := goodIn_app (goodIn_of _ (by decide +kernel)) ggX3_burden_X3_floorsUp
theorem dX3_burden_0 : decode cX3_burden 0 = .ok (.aload_n 0, 1) := by decide +kernel
theorem dX3_burden_1 : decode cX3_burden 1 = .ok (.iload_n 1, 1) := by decide +kernel
theorem dX3_burden_2 : decode cX3_burden 2 = .ok (.invokevirtual 80, 3) := by decide +kernel
theorem dX3_burden_5 : decode cX3_burden 5 = .ok (.istore_n 2, 1) := by decide +kernel
theorem dX3_burden_6 : decode cX3_burden 6 = .ok (.iconst 0, 1) := by decide +kernel
theorem dX3_burden_7 : decode cX3_burden 7 = .ok (.istore_n 3, 1) := by decide +kernel
theorem dX3_burden_8 : decode cX3_burden 8 = .ok (.iconst 0, 1) := by decide +kernel
theorem dX3_burden_9 : decode cX3_burden 9 = .ok (.istore 4, 2) := by decide +kernel
theorem dX3_burden_11 : decode cX3_burden 11 = .ok (.iload 4, 2) := by decide +kernel
theorem dX3_burden_13 : decode cX3_burden 13 = .ok (.bipush 8, 2) := by decide +kernel
theorem dX3_burden_15 : decode cX3_burden 15 = .ok (.if_icmp .ge 45, 3) := by decide +kernel
theorem dX3_burden_18 : decode cX3_burden 18 = .ok (.aload_n 0, 1) := by decide +kernel
theorem dX3_burden_19 : decode cX3_burden 19 = .ok (.iload 4, 2) := by decide +kernel
theorem dX3_burden_21 : decode cX3_burden 21 = .ok (.invokevirtual 38, 3) := by decide +kernel
theorem dX3_burden_24 : decode cX3_burden 24 = .ok (.ifCond .eq 30, 3) := by decide +kernel
theorem dX3_burden_27 : decode cX3_burden 27 = .ok (.iload_n 1, 1) := by decide +kernel
theorem dX3_burden_28 : decode cX3_burden 28 = .ok (.iload 4, 2) := by decide +kernel
theorem dX3_burden_30 : decode cX3_burden 30 = .ok (.invokestatic 68, 3) := by decide +kernel
theorem dX3_burden_33 : decode cX3_burden 33 = .ok (.ifCond .ne 21, 3) := by decide +kernel
theorem dX3_burden_36 : decode cX3_burden 36 = .ok (.iload_n 3, 1) := by decide +kernel
theorem dX3_burden_37 : decode cX3_burden 37 = .ok (.aload_n 0, 1) := by decide +kernel
theorem dX3_burden_38 : decode cX3_burden 38 = .ok (.getfield 21, 3) := by decide +kernel
theorem dX3_burden_41 : decode cX3_burden 41 = .ok (.iload 4, 2) := by decide +kernel
theorem dX3_burden_43 : decode cX3_burden 43 = .ok (.iaload, 1) := by decide +kernel
theorem dX3_burden_44 : decode cX3_burden 44 = .ok (.aload_n 0, 1) := by decide +kernel
theorem dX3_burden_45 : decode cX3_burden 45 = .ok (.iload 4, 2) := by decide +kernel
theorem dX3_burden_47 : decode cX3_burden 47 = .ok (.iload_n 2, 1) := by decide +kernel
theorem dX3_burden_48 : decode cX3_burden 48 = .ok (.invokevirtual 83, 3) := by decide +kernel
theorem dX3_burden_51 : decode cX3_burden 51 = .ok (.imul, 1) := by decide +kernel
theorem dX3_burden_52 : decode cX3_burden 52 = .ok (.iadd, 1) := by decide +kernel
theorem dX3_burden_53 : decode cX3_burden 53 = .ok (.istore_n 3, 1) := by decide +kernel
theorem dX3_burden_54 : decode cX3_burden 54 = .ok (.iinc 4 1, 3) := by decide +kernel
theorem dX3_burden_57 : decode cX3_burden 57 = .ok (.goto (-46), 3) := by decide +kernel
theorem dX3_burden_60 : decode cX3_burden 60 = .ok (.iload_n 3, 1) := by decide +kernel
theorem dX3_burden_61 : decode cX3_burden 61 = .ok (.ireturn, 1) := by decide +kernel
set_option maxRecDepth 20000 in
theorem ggX3_likeliestAbove_X3_isAlive : GoodIn wsX3_likeliestAbove wsX3_isAlive := goodIn_r _ [6, 7, 1, 39, 40, 41, 42, 43, 44, 45] (by decide +kernel) (by decide +kernel)
set_option maxRecDepth 20000 in
theorem gX3_likeliestAbove_X3_isAlive : GoodIn wsX3_likeliestAbove (wsV RX3 38 RX3 yX3_isAlive wsX3_isAlive) := goodIn_app (goodIn_of _ (by decide +kernel)) ggX3_likeliestAbove_X3_isAlive
set_option maxRecDepth 20000 in
theorem ggX3_likeliestAbove_X3_holds : GoodIn wsX3_likeliestAbove wsX3_holds := goodIn_r _ [10] (by decide +kernel) (by decide +kernel)
set_option maxRecDepth 20000 in
theorem gX3_likeliestAbove_X3_holds : GoodIn wsX3_likeliestAbove (va_wsS RX3 68 yX3_holds wsX3_holds) := goodIn_app (goodIn_of _ (by decide +kernel)) ggX3_likeliestAbove_X3_holds
set_option maxRecDepth 20000 in
theorem ggX3_likeliestAbove_X3_chanceAfter : GoodIn wsX3_likeliestAbove wsX3_chanceAfter := goodIn_r _ [14, 15, 16, 17, 18, 5, 19, 20, 21, 22, 23, 24, 25, 26, 27, 28, 29, 30, 31, 32, 33, 34, 35, 36, 37, 38, 39, 40, 41, 42, 43, 44, 45] (by decide +kernel) (by decide +kernel)
set_option maxRecDepth 20000 in
theorem gX3_likeliestAbove_X3_chanceAfter : GoodIn wsX3_likeliestAbove (wsV RX3 86 RX3 yX3_chanceAfter wsX3_chanceAfter) := goodIn_app (goodIn_of _ (by decide +kernel)) ggX3_likeliestAbove_X3_chanceAfter
theorem dX3_likeliestAbove_0 : decode cX3_likeliestAbove 0 = .ok (.iconst 0, 1) := by decide +kernel
theorem dX3_likeliestAbove_1 : decode cX3_likeliestAbove 1 = .ok (.istore_n 3, 1) := by decide +kernel
theorem dX3_likeliestAbove_2 : decode cX3_likeliestAbove 2 = .ok (.iconst 0, 1) := by decide +kernel
theorem dX3_likeliestAbove_3 : decode cX3_likeliestAbove 3 = .ok (.istore 4, 2) := by decide +kernel
theorem dX3_likeliestAbove_5 : decode cX3_likeliestAbove 5 = .ok (.iload 4, 2) := by decide +kernel
theorem dX3_likeliestAbove_7 : decode cX3_likeliestAbove 7 = .ok (.iload_n 2, 1) := by decide +kernel
theorem dX3_likeliestAbove_8 : decode cX3_likeliestAbove 8 = .ok (.if_icmp .ge 110, 3) := by decide +kernel
theorem dX3_likeliestAbove_11 : decode cX3_likeliestAbove 11 = .ok (.iload 4, 2) := by decide +kernel
theorem dX3_likeliestAbove_13 : decode cX3_likeliestAbove 13 = .ok (.bipush 8, 2) := by decide +kernel
theorem dX3_likeliestAbove_15 : decode cX3_likeliestAbove 15 = .ok (.if_icmp .ge 103, 3) := by decide +kernel
theorem dX3_likeliestAbove_18 : decode cX3_likeliestAbove 18 = .ok (.iconst (-1), 1) := by decide +kernel
theorem dX3_likeliestAbove_19 : decode cX3_likeliestAbove 19 = .ok (.istore 5, 2) := by decide +kernel
theorem dX3_likeliestAbove_21 : decode cX3_likeliestAbove 21 = .ok (.iconst 0, 1) := by decide +kernel
theorem dX3_likeliestAbove_22 : decode cX3_likeliestAbove 22 = .ok (.istore 6, 2) := by decide +kernel
theorem dX3_likeliestAbove_24 : decode cX3_likeliestAbove 24 = .ok (.iload 6, 2) := by decide +kernel
theorem dX3_likeliestAbove_26 : decode cX3_likeliestAbove 26 = .ok (.bipush 8, 2) := by decide +kernel
theorem dX3_likeliestAbove_28 : decode cX3_likeliestAbove 28 = .ok (.if_icmp .ge 72, 3) := by decide +kernel
theorem dX3_likeliestAbove_31 : decode cX3_likeliestAbove 31 = .ok (.aload_n 0, 1) := by decide +kernel
theorem dX3_likeliestAbove_32 : decode cX3_likeliestAbove 32 = .ok (.iload 6, 2) := by decide +kernel
theorem dX3_likeliestAbove_34 : decode cX3_likeliestAbove 34 = .ok (.invokevirtual 38, 3) := by decide +kernel
theorem dX3_likeliestAbove_37 : decode cX3_likeliestAbove 37 = .ok (.ifCond .eq 57, 3) := by decide +kernel
theorem dX3_likeliestAbove_40 : decode cX3_likeliestAbove 40 = .ok (.iload_n 3, 1) := by decide +kernel
theorem dX3_likeliestAbove_41 : decode cX3_likeliestAbove 41 = .ok (.iload 6, 2) := by decide +kernel
theorem dX3_likeliestAbove_43 : decode cX3_likeliestAbove 43 = .ok (.invokestatic 68, 3) := by decide +kernel
theorem dX3_likeliestAbove_46 : decode cX3_likeliestAbove 46 = .ok (.ifCond .ne 48, 3) := by decide +kernel
theorem dX3_likeliestAbove_49 : decode cX3_likeliestAbove 49 = .ok (.aload_n 0, 1) := by decide +kernel
theorem dX3_likeliestAbove_50 : decode cX3_likeliestAbove 50 = .ok (.getfield 18, 3) := by decide +kernel
theorem dX3_likeliestAbove_53 : decode cX3_likeliestAbove 53 = .ok (.iload 6, 2) := by decide +kernel
theorem dX3_likeliestAbove_55 : decode cX3_likeliestAbove 55 = .ok (.iaload, 1) := by decide +kernel
theorem dX3_likeliestAbove_56 : decode cX3_likeliestAbove 56 = .ok (.aload_n 0, 1) := by decide +kernel
theorem dX3_likeliestAbove_57 : decode cX3_likeliestAbove 57 = .ok (.getfield 18, 3) := by decide +kernel
theorem dX3_likeliestAbove_60 : decode cX3_likeliestAbove 60 = .ok (.iload_n 1, 1) := by decide +kernel
theorem dX3_likeliestAbove_61 : decode cX3_likeliestAbove 61 = .ok (.iaload, 1) := by decide +kernel
theorem dX3_likeliestAbove_62 : decode cX3_likeliestAbove 62 = .ok (.if_icmp .gt 6, 3) := by decide +kernel
theorem dX3_likeliestAbove_65 : decode cX3_likeliestAbove 65 = .ok (.goto 29, 3) := by decide +kernel
theorem dX3_likeliestAbove_68 : decode cX3_likeliestAbove 68 = .ok (.iload 5, 2) := by decide +kernel
theorem dX3_likeliestAbove_70 : decode cX3_likeliestAbove 70 = .ok (.ifCond .lt 20, 3) := by decide +kernel
theorem dX3_likeliestAbove_73 : decode cX3_likeliestAbove 73 = .ok (.aload_n 0, 1) := by decide +kernel
theorem dX3_likeliestAbove_74 : decode cX3_likeliestAbove 74 = .ok (.iload 6, 2) := by decide +kernel
theorem dX3_likeliestAbove_76 : decode cX3_likeliestAbove 76 = .ok (.iconst 0, 1) := by decide +kernel
theorem dX3_likeliestAbove_77 : decode cX3_likeliestAbove 77 = .ok (.invokevirtual 86, 3) := by decide +kernel
theorem dX3_likeliestAbove_80 : decode cX3_likeliestAbove 80 = .ok (.aload_n 0, 1) := by decide +kernel
theorem dX3_likeliestAbove_81 : decode cX3_likeliestAbove 81 = .ok (.iload 5, 2) := by decide +kernel
theorem dX3_likeliestAbove_83 : decode cX3_likeliestAbove 83 = .ok (.iconst 0, 1) := by decide +kernel
theorem dX3_likeliestAbove_84 : decode cX3_likeliestAbove 84 = .ok (.invokevirtual 86, 3) := by decide +kernel
theorem dX3_likeliestAbove_87 : decode cX3_likeliestAbove 87 = .ok (.if_icmp .le 7, 3) := by decide +kernel
theorem dX3_likeliestAbove_90 : decode cX3_likeliestAbove 90 = .ok (.iload 6, 2) := by decide +kernel
theorem dX3_likeliestAbove_92 : decode cX3_likeliestAbove 92 = .ok (.istore 5, 2) := by decide +kernel
theorem dX3_likeliestAbove_94 : decode cX3_likeliestAbove 94 = .ok (.iinc 6 1, 3) := by decide +kernel
theorem dX3_likeliestAbove_97 : decode cX3_likeliestAbove 97 = .ok (.goto (-73), 3) := by decide +kernel
theorem dX3_likeliestAbove_100 : decode cX3_likeliestAbove 100 = .ok (.iload 5, 2) := by decide +kernel
theorem dX3_likeliestAbove_102 : decode cX3_likeliestAbove 102 = .ok (.ifCond .lt 10, 3) := by decide +kernel
theorem dX3_likeliestAbove_105 : decode cX3_likeliestAbove 105 = .ok (.iload_n 3, 1) := by decide +kernel
theorem dX3_likeliestAbove_106 : decode cX3_likeliestAbove 106 = .ok (.iconst 1, 1) := by decide +kernel
theorem dX3_likeliestAbove_107 : decode cX3_likeliestAbove 107 = .ok (.iload 5, 2) := by decide +kernel
theorem dX3_likeliestAbove_109 : decode cX3_likeliestAbove 109 = .ok (.ishl, 1) := by decide +kernel
theorem dX3_likeliestAbove_110 : decode cX3_likeliestAbove 110 = .ok (.ior, 1) := by decide +kernel
theorem dX3_likeliestAbove_111 : decode cX3_likeliestAbove 111 = .ok (.istore_n 3, 1) := by decide +kernel
theorem dX3_likeliestAbove_112 : decode cX3_likeliestAbove 112 = .ok (.iinc 4 1, 3) := by decide +kernel
theorem dX3_likeliestAbove_115 : decode cX3_likeliestAbove 115 = .ok (.goto (-110), 3) := by decide +kernel
theorem dX3_likeliestAbove_118 : decode cX3_likeliestAbove 118 = .ok (.iload_n 3, 1) := by decide +kernel
theorem dX3_likeliestAbove_119 : decode cX3_likeliestAbove 119 = .ok (.ireturn, 1) := by decide +kernel
set_option maxRecDepth 20000 in
theorem ggX3_inRings_X3_isAlive : GoodIn wsX3_inRings wsX3_isAlive := goodIn_r _ [5, 6, 7, 17, 18, 19, 20, 21, 22, 23] (by decide +kernel) (by decide +kernel)
set_option maxRecDepth 20000 in
theorem gX3_inRings_X3_isAlive : GoodIn wsX3_inRings (wsV RX3 38 RX3 yX3_isAlive wsX3_isAlive) := goodIn_app (goodIn_of _ (by decide +kernel)) ggX3_inRings_X3_isAlive
set_option maxRecDepth 20000 in
theorem ggX3_inRings_X3_isInRing : GoodIn wsX3_inRings wsX3_isInRing := goodIn_r _ [11, 12, 13, 14, 15, 4, 16, 7, 1, 2, 3, 5, 6, 17, 18, 19, 20, 21, 22, 23] (by decide +kernel) (by decide +kernel)
set_option maxRecDepth 20000 in
theorem gX3_inRings_X3_isInRing : GoodIn wsX3_inRings (wsV RX3 89 RX3 yX3_isInRing wsX3_isInRing) := goodIn_app (goodIn_of _ (by decide +kernel)) ggX3_inRings_X3_isInRing
theorem dX3_inRings_0 : decode cX3_inRings 0 = .ok (.iconst 0, 1) := by decide +kernel
theorem dX3_inRings_1 : decode cX3_inRings 1 = .ok (.istore_n 1, 1) := by decide +kernel
theorem dX3_inRings_2 : decode cX3_inRings 2 = .ok (.iconst 0, 1) := by decide +kernel
theorem dX3_inRings_3 : decode cX3_inRings 3 = .ok (.istore_n 2, 1) := by decide +kernel
theorem dX3_inRings_4 : decode cX3_inRings 4 = .ok (.iload_n 2, 1) := by decide +kernel
theorem dX3_inRings_5 : decode cX3_inRings 5 = .ok (.bipush 8, 2) := by decide +kernel
theorem dX3_inRings_7 : decode cX3_inRings 7 = .ok (.if_icmp .ge 31, 3) := by decide +kernel
theorem dX3_inRings_10 : decode cX3_inRings 10 = .ok (.aload_n 0, 1) := by decide +kernel
theorem dX3_inRings_11 : decode cX3_inRings 11 = .ok (.iload_n 2, 1) := by decide +kernel
theorem dX3_inRings_12 : decode cX3_inRings 12 = .ok (.invokevirtual 38, 3) := by decide +kernel
theorem dX3_inRings_15 : decode cX3_inRings 15 = .ok (.ifCond .eq 17, 3) := by decide +kernel
theorem dX3_inRings_18 : decode cX3_inRings 18 = .ok (.aload_n 0, 1) := by decide +kernel
theorem dX3_inRings_19 : decode cX3_inRings 19 = .ok (.iload_n 2, 1) := by decide +kernel
theorem dX3_inRings_20 : decode cX3_inRings 20 = .ok (.invokevirtual 89, 3) := by decide +kernel
theorem dX3_inRings_23 : decode cX3_inRings 23 = .ok (.ifCond .eq 9, 3) := by decide +kernel
theorem dX3_inRings_26 : decode cX3_inRings 26 = .ok (.iload_n 1, 1) := by decide +kernel
theorem dX3_inRings_27 : decode cX3_inRings 27 = .ok (.iconst 1, 1) := by decide +kernel
theorem dX3_inRings_28 : decode cX3_inRings 28 = .ok (.iload_n 2, 1) := by decide +kernel
theorem dX3_inRings_29 : decode cX3_inRings 29 = .ok (.ishl, 1) := by decide +kernel
theorem dX3_inRings_30 : decode cX3_inRings 30 = .ok (.ior, 1) := by decide +kernel
theorem dX3_inRings_31 : decode cX3_inRings 31 = .ok (.istore_n 1, 1) := by decide +kernel
theorem dX3_inRings_32 : decode cX3_inRings 32 = .ok (.iinc 2 1, 3) := by decide +kernel
theorem dX3_inRings_35 : decode cX3_inRings 35 = .ok (.goto (-31), 3) := by decide +kernel
theorem dX3_inRings_38 : decode cX3_inRings 38 = .ok (.iload_n 1, 1) := by decide +kernel
theorem dX3_inRings_39 : decode cX3_inRings 39 = .ok (.ireturn, 1) := by decide +kernel
set_option maxRecDepth 20000 in
theorem ggX3_changeRings_X3_inRings : GoodIn wsX3_changeRings wsX3_inRings := goodIn_r _ [7, 8, 9, 10, 6, 11, 12, 1, 13, 14, 15, 16, 2, 17, 18, 19, 20, 24, 25, 26, 27, 28, 29, 30] (by decide +kernel) (by decide +kernel)
set_option maxRecDepth 20000 in
theorem gX3_changeRings_X3_inRings : GoodIn wsX3_changeRings (wsV RX3 92 RX3 yX3_inRings wsX3_inRings) := goodIn_app (goodIn_of _ (by decide +kernel)) ggX3_changeRings_X3_inRings
set_option maxRecDepth 20000 in
theorem ggX3_changeRings_X3_holds : GoodIn wsX3_changeRings wsX3_holds := goodIn_r _ [23] (by decide +kernel) (by decide +kernel)
set_option maxRecDepth 20000 in
theorem gX3_changeRings_X3_holds : GoodIn wsX3_changeRings (va_wsS RX3 68 yX3_holds wsX3_holds) := goodIn_app (goodIn_of _ (by decide +kernel)) ggX3_changeRings_X3_holds
theorem dX3_changeRings_0 : decode cX3_changeRings 0 = .ok (.aload_n 0, 1) := by decide +kernel
theorem dX3_changeRings_1 : decode cX3_changeRings 1 = .ok (.invokevirtual 92, 3) := by decide +kernel
theorem dX3_changeRings_4 : decode cX3_changeRings 4 = .ok (.istore_n 1, 1) := by decide +kernel
theorem dX3_changeRings_5 : decode cX3_changeRings 5 = .ok (.iconst 0, 1) := by decide +kernel
theorem dX3_changeRings_6 : decode cX3_changeRings 6 = .ok (.istore_n 2, 1) := by decide +kernel
theorem dX3_changeRings_7 : decode cX3_changeRings 7 = .ok (.iconst 0, 1) := by decide +kernel
theorem dX3_changeRings_8 : decode cX3_changeRings 8 = .ok (.istore_n 3, 1) := by decide +kernel
theorem dX3_changeRings_9 : decode cX3_changeRings 9 = .ok (.iload_n 3, 1) := by decide +kernel
theorem dX3_changeRings_10 : decode cX3_changeRings 10 = .ok (.bipush 8, 2) := by decide +kernel
theorem dX3_changeRings_12 : decode cX3_changeRings 12 = .ok (.if_icmp .ge 57, 3) := by decide +kernel
theorem dX3_changeRings_15 : decode cX3_changeRings 15 = .ok (.iload_n 1, 1) := by decide +kernel
theorem dX3_changeRings_16 : decode cX3_changeRings 16 = .ok (.iload_n 3, 1) := by decide +kernel
theorem dX3_changeRings_17 : decode cX3_changeRings 17 = .ok (.invokestatic 68, 3) := by decide +kernel
theorem dX3_changeRings_20 : decode cX3_changeRings 20 = .ok (.ifCond .ne 6, 3) := by decide +kernel
theorem dX3_changeRings_23 : decode cX3_changeRings 23 = .ok (.goto 40, 3) := by decide +kernel
theorem dX3_changeRings_26 : decode cX3_changeRings 26 = .ok (.aload_n 0, 1) := by decide +kernel
theorem dX3_changeRings_27 : decode cX3_changeRings 27 = .ok (.getfield 18, 3) := by decide +kernel
theorem dX3_changeRings_30 : decode cX3_changeRings 30 = .ok (.iload_n 3, 1) := by decide +kernel
theorem dX3_changeRings_31 : decode cX3_changeRings 31 = .ok (.iaload, 1) := by decide +kernel
theorem dX3_changeRings_32 : decode cX3_changeRings 32 = .ok (.aload_n 0, 1) := by decide +kernel
theorem dX3_changeRings_33 : decode cX3_changeRings 33 = .ok (.getfield 24, 3) := by decide +kernel
theorem dX3_changeRings_36 : decode cX3_changeRings 36 = .ok (.iload_n 3, 1) := by decide +kernel
theorem dX3_changeRings_37 : decode cX3_changeRings 37 = .ok (.iaload, 1) := by decide +kernel
theorem dX3_changeRings_38 : decode cX3_changeRings 38 = .ok (.if_icmp .eq 6, 3) := by decide +kernel
theorem dX3_changeRings_41 : decode cX3_changeRings 41 = .ok (.iinc 2 1, 3) := by decide +kernel
theorem dX3_changeRings_44 : decode cX3_changeRings 44 = .ok (.aload_n 0, 1) := by decide +kernel
theorem dX3_changeRings_45 : decode cX3_changeRings 45 = .ok (.getfield 18, 3) := by decide +kernel
theorem dX3_changeRings_48 : decode cX3_changeRings 48 = .ok (.iload_n 3, 1) := by decide +kernel
theorem dX3_changeRings_49 : decode cX3_changeRings 49 = .ok (.aload_n 0, 1) := by decide +kernel
theorem dX3_changeRings_50 : decode cX3_changeRings 50 = .ok (.getfield 24, 3) := by decide +kernel
theorem dX3_changeRings_53 : decode cX3_changeRings 53 = .ok (.iload_n 3, 1) := by decide +kernel
theorem dX3_changeRings_54 : decode cX3_changeRings 54 = .ok (.iaload, 1) := by decide +kernel
theorem dX3_changeRings_55 : decode cX3_changeRings 55 = .ok (.iastore, 1) := by decide +kernel
theorem dX3_changeRings_56 : decode cX3_changeRings 56 = .ok (.aload_n 0, 1) := by decide +kernel
theorem dX3_changeRings_57 : decode cX3_changeRings 57 = .ok (.getfield 24, 3) := by decide +kernel
theorem dX3_changeRings_60 : decode cX3_changeRings 60 = .ok (.iload_n 3, 1) := by decide +kernel
theorem dX3_changeRings_61 : decode cX3_changeRings 61 = .ok (.iconst (-1), 1) := by decide +kernel
theorem dX3_changeRings_62 : decode cX3_changeRings 62 = .ok (.iastore, 1) := by decide +kernel
theorem dX3_changeRings_63 : decode cX3_changeRings 63 = .ok (.iinc 3 1, 3) := by decide +kernel
theorem dX3_changeRings_66 : decode cX3_changeRings 66 = .ok (.goto (-57), 3) := by decide +kernel
theorem dX3_changeRings_69 : decode cX3_changeRings 69 = .ok (.iload_n 2, 1) := by decide +kernel
theorem dX3_changeRings_70 : decode cX3_changeRings 70 = .ok (.ireturn, 1) := by decide +kernel
set_option maxRecDepth 20000 in
theorem ggX3_livingByLot_X3_living : GoodIn wsX3_livingByLot wsX3_living := goodIn_r _ [8, 9, 10, 11, 7, 12, 13, 14, 46, 47, 48, 49, 50, 51, 52] (by decide +kernel) (by decide +kernel)
set_option maxRecDepth 20000 in
theorem gX3_livingByLot_X3_living : GoodIn wsX3_livingByLot (wsV RX3 34 RX3 yX3_living wsX3_living) := goodIn_app (goodIn_of _ (by decide +kernel)) ggX3_livingByLot_X3_living
set_option maxRecDepth 20000 in
theorem ggX3_livingByLot_X3_holds : GoodIn wsX3_livingByLot wsX3_holds := goodIn_r _ [17] (by decide +kernel) (by decide +kernel)
set_option maxRecDepth 20000 in
theorem gX3_livingByLot_X3_holds : GoodIn wsX3_livingByLot (va_wsS RX3 68 yX3_holds wsX3_holds) := goodIn_app (goodIn_of _ (by decide +kernel)) ggX3_livingByLot_X3_holds
set_option maxRecDepth 20000 in
theorem ggX3_livingByLot_X3_chanceAfter : GoodIn wsX3_livingByLot wsX3_chanceAfter := goodIn_r _ [21, 22, 23, 24, 25, 7, 26, 27, 28, 29, 30, 31, 32, 33, 34, 35, 36, 37, 38, 39, 40, 41, 42, 43, 44, 45, 46, 47, 48, 49, 50, 51, 52] (by decide +kernel) (by decide +kernel)
set_option maxRecDepth 20000 in
theorem gX3_livingByLot_X3_chanceAfter : GoodIn wsX3_livingByLot (wsV RX3 86 RX3 yX3_chanceAfter wsX3_chanceAfter) := goodIn_app (goodIn_of _ (by decide +kernel)) ggX3_livingByLot_X3_chanceAfter
theorem dX3_livingByLot_0 : decode cX3_livingByLot 0 = .ok (.aload_n 0, 1) := by decide +kernel
theorem dX3_livingByLot_1 : decode cX3_livingByLot 1 = .ok (.invokevirtual 34, 3) := by decide +kernel
theorem dX3_livingByLot_4 : decode cX3_livingByLot 4 = .ok (.istore_n 3, 1) := by decide +kernel
theorem dX3_livingByLot_5 : decode cX3_livingByLot 5 = .ok (.iload_n 2, 1) := by decide +kernel
theorem dX3_livingByLot_6 : decode cX3_livingByLot 6 = .ok (.istore 4, 2) := by decide +kernel
theorem dX3_livingByLot_8 : decode cX3_livingByLot 8 = .ok (.iconst 0, 1) := by decide +kernel
theorem dX3_livingByLot_9 : decode cX3_livingByLot 9 = .ok (.istore 5, 2) := by decide +kernel
theorem dX3_livingByLot_11 : decode cX3_livingByLot 11 = .ok (.iload 5, 2) := by decide +kernel
theorem dX3_livingByLot_13 : decode cX3_livingByLot 13 = .ok (.iload_n 1, 1) := by decide +kernel
theorem dX3_livingByLot_14 : decode cX3_livingByLot 14 = .ok (.if_icmp .ge 83, 3) := by decide +kernel
theorem dX3_livingByLot_17 : decode cX3_livingByLot 17 = .ok (.iconst 0, 1) := by decide +kernel
theorem dX3_livingByLot_18 : decode cX3_livingByLot 18 = .ok (.istore 6, 2) := by decide +kernel
theorem dX3_livingByLot_20 : decode cX3_livingByLot 20 = .ok (.iload 6, 2) := by decide +kernel
theorem dX3_livingByLot_22 : decode cX3_livingByLot 22 = .ok (.bipush 8, 2) := by decide +kernel
theorem dX3_livingByLot_24 : decode cX3_livingByLot 24 = .ok (.if_icmp .ge 67, 3) := by decide +kernel
theorem dX3_livingByLot_27 : decode cX3_livingByLot 27 = .ok (.iload_n 3, 1) := by decide +kernel
theorem dX3_livingByLot_28 : decode cX3_livingByLot 28 = .ok (.iload 6, 2) := by decide +kernel
theorem dX3_livingByLot_30 : decode cX3_livingByLot 30 = .ok (.invokestatic 68, 3) := by decide +kernel
theorem dX3_livingByLot_33 : decode cX3_livingByLot 33 = .ok (.ifCond .ne 6, 3) := by decide +kernel
theorem dX3_livingByLot_36 : decode cX3_livingByLot 36 = .ok (.goto 49, 3) := by decide +kernel
theorem dX3_livingByLot_39 : decode cX3_livingByLot 39 = .ok (.iload 4, 2) := by decide +kernel
theorem dX3_livingByLot_41 : decode cX3_livingByLot 41 = .ok (.ldc 95, 2) := by decide +kernel
theorem dX3_livingByLot_43 : decode cX3_livingByLot 43 = .ok (.imul, 1) := by decide +kernel
theorem dX3_livingByLot_44 : decode cX3_livingByLot 44 = .ok (.ldc 96, 2) := by decide +kernel
theorem dX3_livingByLot_46 : decode cX3_livingByLot 46 = .ok (.iadd, 1) := by decide +kernel
theorem dX3_livingByLot_47 : decode cX3_livingByLot 47 = .ok (.istore 4, 2) := by decide +kernel
theorem dX3_livingByLot_49 : decode cX3_livingByLot 49 = .ok (.iload 4, 2) := by decide +kernel
theorem dX3_livingByLot_51 : decode cX3_livingByLot 51 = .ok (.ldc 97, 2) := by decide +kernel
theorem dX3_livingByLot_53 : decode cX3_livingByLot 53 = .ok (.iand, 1) := by decide +kernel
theorem dX3_livingByLot_54 : decode cX3_livingByLot 54 = .ok (.sipush 256, 3) := by decide +kernel
theorem dX3_livingByLot_57 : decode cX3_livingByLot 57 = .ok (.idiv, 1) := by decide +kernel
theorem dX3_livingByLot_58 : decode cX3_livingByLot 58 = .ok (.bipush 10, 2) := by decide +kernel
theorem dX3_livingByLot_60 : decode cX3_livingByLot 60 = .ok (.irem, 1) := by decide +kernel
theorem dX3_livingByLot_61 : decode cX3_livingByLot 61 = .ok (.istore 7, 2) := by decide +kernel
theorem dX3_livingByLot_63 : decode cX3_livingByLot 63 = .ok (.iload 7, 2) := by decide +kernel
theorem dX3_livingByLot_65 : decode cX3_livingByLot 65 = .ok (.aload_n 0, 1) := by decide +kernel
theorem dX3_livingByLot_66 : decode cX3_livingByLot 66 = .ok (.iload 6, 2) := by decide +kernel
theorem dX3_livingByLot_68 : decode cX3_livingByLot 68 = .ok (.iload 5, 2) := by decide +kernel
theorem dX3_livingByLot_70 : decode cX3_livingByLot 70 = .ok (.invokevirtual 86, 3) := by decide +kernel
theorem dX3_livingByLot_73 : decode cX3_livingByLot 73 = .ok (.if_icmp .ge 12, 3) := by decide +kernel
theorem dX3_livingByLot_76 : decode cX3_livingByLot 76 = .ok (.iload_n 3, 1) := by decide +kernel
theorem dX3_livingByLot_77 : decode cX3_livingByLot 77 = .ok (.iconst 1, 1) := by decide +kernel
theorem dX3_livingByLot_78 : decode cX3_livingByLot 78 = .ok (.iload 6, 2) := by decide +kernel
theorem dX3_livingByLot_80 : decode cX3_livingByLot 80 = .ok (.ishl, 1) := by decide +kernel
theorem dX3_livingByLot_81 : decode cX3_livingByLot 81 = .ok (.iconst (-1), 1) := by decide +kernel
theorem dX3_livingByLot_82 : decode cX3_livingByLot 82 = .ok (.ixor, 1) := by decide +kernel
theorem dX3_livingByLot_83 : decode cX3_livingByLot 83 = .ok (.iand, 1) := by decide +kernel
theorem dX3_livingByLot_84 : decode cX3_livingByLot 84 = .ok (.istore_n 3, 1) := by decide +kernel
theorem dX3_livingByLot_85 : decode cX3_livingByLot 85 = .ok (.iinc 6 1, 3) := by decide +kernel
theorem dX3_livingByLot_88 : decode cX3_livingByLot 88 = .ok (.goto (-68), 3) := by decide +kernel
theorem dX3_livingByLot_91 : decode cX3_livingByLot 91 = .ok (.iinc 5 1, 3) := by decide +kernel
theorem dX3_livingByLot_94 : decode cX3_livingByLot 94 = .ok (.goto (-83), 3) := by decide +kernel
theorem dX3_livingByLot_97 : decode cX3_livingByLot 97 = .ok (.iload_n 3, 1) := by decide +kernel
theorem dX3_livingByLot_98 : decode cX3_livingByLot 98 = .ok (.ireturn, 1) := by decide +kernel
theorem dX3_ageAfter_0 : decode cX3_ageAfter 0 = .ok (.bipush 99, 2) := by decide +kernel
theorem dX3_ageAfter_2 : decode cX3_ageAfter 2 = .ok (.aload_n 0, 1) := by decide +kernel
theorem dX3_ageAfter_3 : decode cX3_ageAfter 3 = .ok (.getfield 15, 3) := by decide +kernel
theorem dX3_ageAfter_6 : decode cX3_ageAfter 6 = .ok (.iload_n 1, 1) := by decide +kernel
theorem dX3_ageAfter_7 : decode cX3_ageAfter 7 = .ok (.iaload, 1) := by decide +kernel
theorem dX3_ageAfter_8 : decode cX3_ageAfter 8 = .ok (.iload_n 2, 1) := by decide +kernel
theorem dX3_ageAfter_9 : decode cX3_ageAfter 9 = .ok (.iadd, 1) := by decide +kernel
theorem dX3_ageAfter_10 : decode cX3_ageAfter 10 = .ok (.invokestatic 98, 3) := by decide +kernel
theorem dX3_ageAfter_13 : decode cX3_ageAfter 13 = .ok (.ireturn, 1) := by decide +kernel
set_option maxRecDepth 20000 in
theorem ggX3_isInRing_X3_whoLivesOn : GoodIn wsX3_isInRing wsX3_whoLivesOn := goodIn_r _ [6, 7, 8, 9, 10, 5, 11, 12, 13, 14, 15, 16, 17, 18, 19] (by decide +kernel) (by decide +kernel)
set_option maxRecDepth 20000 in
theorem gX3_isInRing_X3_whoLivesOn : GoodIn wsX3_isInRing (wsV RX3 52 RX3 yX3_whoLivesOn wsX3_whoLivesOn) := goodIn_app (goodIn_of _ (by decide +kernel)) ggX3_isInRing_X3_whoLivesOn
theorem dX3_isInRing_0 : decode cX3_isInRing 0 = .ok (.iload_n 1, 1) := by decide +kernel
theorem dX3_isInRing_1 : decode cX3_isInRing 1 = .ok (.istore_n 2, 1) := by decide +kernel
theorem dX3_isInRing_2 : decode cX3_isInRing 2 = .ok (.iconst 0, 1) := by decide +kernel
theorem dX3_isInRing_3 : decode cX3_isInRing 3 = .ok (.istore_n 3, 1) := by decide +kernel
theorem dX3_isInRing_4 : decode cX3_isInRing 4 = .ok (.iload_n 3, 1) := by decide +kernel
theorem dX3_isInRing_5 : decode cX3_isInRing 5 = .ok (.bipush 8, 2) := by decide +kernel
theorem dX3_isInRing_7 : decode cX3_isInRing 7 = .ok (.if_icmp .ge 47, 3) := by decide +kernel
theorem dX3_isInRing_10 : decode cX3_isInRing 10 = .ok (.aload_n 0, 1) := by decide +kernel
theorem dX3_isInRing_11 : decode cX3_isInRing 11 = .ok (.getfield 24, 3) := by decide +kernel
theorem dX3_isInRing_14 : decode cX3_isInRing 14 = .ok (.iload_n 2, 1) := by decide +kernel
theorem dX3_isInRing_15 : decode cX3_isInRing 15 = .ok (.iaload, 1) := by decide +kernel
theorem dX3_isInRing_16 : decode cX3_isInRing 16 = .ok (.iconst (-1), 1) := by decide +kernel
theorem dX3_isInRing_17 : decode cX3_isInRing 17 = .ok (.if_icmp .ne 7, 3) := by decide +kernel
theorem dX3_isInRing_20 : decode cX3_isInRing 20 = .ok (.iconst (-1), 1) := by decide +kernel
theorem dX3_isInRing_21 : decode cX3_isInRing 21 = .ok (.goto 13, 3) := by decide +kernel
theorem dX3_isInRing_24 : decode cX3_isInRing 24 = .ok (.aload_n 0, 1) := by decide +kernel
theorem dX3_isInRing_25 : decode cX3_isInRing 25 = .ok (.aload_n 0, 1) := by decide +kernel
theorem dX3_isInRing_26 : decode cX3_isInRing 26 = .ok (.getfield 24, 3) := by decide +kernel
theorem dX3_isInRing_29 : decode cX3_isInRing 29 = .ok (.iload_n 2, 1) := by decide +kernel
theorem dX3_isInRing_30 : decode cX3_isInRing 30 = .ok (.iaload, 1) := by decide +kernel
theorem dX3_isInRing_31 : decode cX3_isInRing 31 = .ok (.invokevirtual 52, 3) := by decide +kernel
theorem dX3_isInRing_34 : decode cX3_isInRing 34 = .ok (.istore_n 2, 1) := by decide +kernel
theorem dX3_isInRing_35 : decode cX3_isInRing 35 = .ok (.iload_n 2, 1) := by decide +kernel
theorem dX3_isInRing_36 : decode cX3_isInRing 36 = .ok (.ifCond .ge 5, 3) := by decide +kernel
theorem dX3_isInRing_39 : decode cX3_isInRing 39 = .ok (.iconst 0, 1) := by decide +kernel
theorem dX3_isInRing_40 : decode cX3_isInRing 40 = .ok (.ireturn, 1) := by decide +kernel
theorem dX3_isInRing_41 : decode cX3_isInRing 41 = .ok (.iload_n 2, 1) := by decide +kernel
theorem dX3_isInRing_42 : decode cX3_isInRing 42 = .ok (.iload_n 1, 1) := by decide +kernel
theorem dX3_isInRing_43 : decode cX3_isInRing 43 = .ok (.if_icmp .ne 5, 3) := by decide +kernel
theorem dX3_isInRing_46 : decode cX3_isInRing 46 = .ok (.iconst 1, 1) := by decide +kernel
theorem dX3_isInRing_47 : decode cX3_isInRing 47 = .ok (.ireturn, 1) := by decide +kernel
theorem dX3_isInRing_48 : decode cX3_isInRing 48 = .ok (.iinc 3 1, 3) := by decide +kernel
theorem dX3_isInRing_51 : decode cX3_isInRing 51 = .ok (.goto (-47), 3) := by decide +kernel
theorem dX3_isInRing_54 : decode cX3_isInRing 54 = .ok (.iconst 0, 1) := by decide +kernel
theorem dX3_isInRing_55 : decode cX3_isInRing 55 = .ok (.ireturn, 1) := by decide +kernel
theorem dX3_holds_0 : decode cX3_holds 0 = .ok (.iload_n 0, 1) := by decide +kernel
theorem dX3_holds_1 : decode cX3_holds 1 = .ok (.iload_n 1, 1) := by decide +kernel
theorem dX3_holds_2 : decode cX3_holds 2 = .ok (.ishr, 1) := by decide +kernel
theorem dX3_holds_3 : decode cX3_holds 3 = .ok (.iconst 1, 1) := by decide +kernel
theorem dX3_holds_4 : decode cX3_holds 4 = .ok (.iand, 1) := by decide +kernel
theorem dX3_holds_5 : decode cX3_holds 5 = .ok (.ifCond .eq 7, 3) := by decide +kernel
theorem dX3_holds_8 : decode cX3_holds 8 = .ok (.iconst 1, 1) := by decide +kernel
theorem dX3_holds_9 : decode cX3_holds 9 = .ok (.goto 4, 3) := by decide +kernel
theorem dX3_holds_12 : decode cX3_holds 12 = .ok (.iconst 0, 1) := by decide +kernel
theorem dX3_holds_13 : decode cX3_holds 13 = .ok (.ireturn, 1) := by decide +kernel
set_option maxRecDepth 20000 in
theorem ggX4_init_X3_init : GoodIn wsX4_init wsX3_init := goodIn_r _ [22, 23, 2, 3, 18, 24, 25, 26, 27, 28, 38, 39, 40, 41, 42, 43, 44] (by decide +kernel) (by decide +kernel)
set_option maxRecDepth 20000 in
theorem gX4_init_X3_init_n9 : GoodIn wsX4_init (wsX3_init) := ggX4_init_X3_init
set_option maxRecDepth 20000 in
theorem ggX4_init_X2_init : GoodIn wsX4_init wsX2_init := goodIn_r _ [30, 31, 2, 3, 18, 32, 54, 55] (by decide +kernel) (by decide +kernel)
set_option maxRecDepth 20000 in
theorem gX4_init_X2_init_n24 : GoodIn wsX4_init (wsX2_init) := ggX4_init_X2_init
set_option maxRecDepth 20000 in
theorem ggX4_init_X1_init : GoodIn wsX4_init wsX1_init := goodIn_r _ [34, 35, 2, 3, 36, 37, 56, 57, 58] (by decide +kernel) (by decide +kernel)
set_option maxRecDepth 20000 in
theorem gX4_init_X1_init_n31 : GoodIn wsX4_init (wsX1_init) := ggX4_init_X1_init
theorem dX4_init_0 : decode cX4_init 0 = .ok (.aload_n 0, 1) := by decide +kernel
theorem dX4_init_1 : decode cX4_init 1 = .ok (.invokespecial 1, 3) := by decide +kernel
theorem dX4_init_4 : decode cX4_init 4 = .ok (.aload_n 0, 1) := by decide +kernel
theorem dX4_init_5 : decode cX4_init 5 = .ok (.new 7, 3) := by decide +kernel
theorem dX4_init_8 : decode cX4_init 8 = .ok (.dup, 1) := by decide +kernel
theorem dX4_init_9 : decode cX4_init 9 = .ok (.invokespecial 9, 3) := by decide +kernel
theorem dX4_init_12 : decode cX4_init 12 = .ok (.putfield 10, 3) := by decide +kernel
theorem dX4_init_15 : decode cX4_init 15 = .ok (.aload_n 0, 1) := by decide +kernel
theorem dX4_init_16 : decode cX4_init 16 = .ok (.new 7, 3) := by decide +kernel
theorem dX4_init_19 : decode cX4_init 19 = .ok (.dup, 1) := by decide +kernel
theorem dX4_init_20 : decode cX4_init 20 = .ok (.invokespecial 9, 3) := by decide +kernel
theorem dX4_init_23 : decode cX4_init 23 = .ok (.putfield 16, 3) := by decide +kernel
theorem dX4_init_26 : decode cX4_init 26 = .ok (.aload_n 0, 1) := by decide +kernel
theorem dX4_init_27 : decode cX4_init 27 = .ok (.new 7, 3) := by decide +kernel
theorem dX4_init_30 : decode cX4_init 30 = .ok (.dup, 1) := by decide +kernel
theorem dX4_init_31 : decode cX4_init 31 = .ok (.invokespecial 9, 3) := by decide +kernel
theorem dX4_init_34 : decode cX4_init 34 = .ok (.putfield 19, 3) := by decide +kernel
theorem dX4_init_37 : decode cX4_init 37 = .ok (.aload_n 0, 1) := by decide +kernel
theorem dX4_init_38 : decode cX4_init 38 = .ok (.new 22, 3) := by decide +kernel
theorem dX4_init_41 : decode cX4_init 41 = .ok (.dup, 1) := by decide +kernel
theorem dX4_init_42 : decode cX4_init 42 = .ok (.invokespecial 24, 3) := by decide +kernel
theorem dX4_init_45 : decode cX4_init 45 = .ok (.putfield 25, 3) := by decide +kernel
theorem dX4_init_48 : decode cX4_init 48 = .ok (.aload_n 0, 1) := by decide +kernel
theorem dX4_init_49 : decode cX4_init 49 = .ok (.new 29, 3) := by decide +kernel
theorem dX4_init_52 : decode cX4_init 52 = .ok (.dup, 1) := by decide +kernel
theorem dX4_init_53 : decode cX4_init 53 = .ok (.invokespecial 31, 3) := by decide +kernel
theorem dX4_init_56 : decode cX4_init 56 = .ok (.putfield 32, 3) := by decide +kernel
theorem dX4_init_59 : decode cX4_init 59 = .ok (.aload_n 0, 1) := by decide +kernel
theorem dX4_init_60 : decode cX4_init 60 = .ok (.bipush 8, 2) := by decide +kernel
theorem dX4_init_62 : decode cX4_init 62 = .ok (.newarray .int, 2) := by decide +kernel
theorem dX4_init_64 : decode cX4_init 64 = .ok (.putfield 36, 3) := by decide +kernel
theorem dX4_init_67 : decode cX4_init 67 = .ok (.aload_n 0, 1) := by decide +kernel
theorem dX4_init_68 : decode cX4_init 68 = .ok (.bipush 7, 2) := by decide +kernel
theorem dX4_init_70 : decode cX4_init 70 = .ok (.newarray .int, 2) := by decide +kernel
theorem dX4_init_72 : decode cX4_init 72 = .ok (.putfield 40, 3) := by decide +kernel
theorem dX4_init_75 : decode cX4_init 75 = .ok (.return_, 1) := by decide +kernel
set_option maxRecDepth 20000 in
theorem ggX4_letter_X4_refuse : GoodIn wsX4_letter wsX4_refuse := goodIn_r _ [6, 7, 19, 20, 21, 22, 23, 24, 25, 26, 27] (by decide +kernel) (by decide +kernel)
set_option maxRecDepth 20000 in
theorem gX4_letter_X4_refuse : GoodIn wsX4_letter (wsV RX4 43 RX4 yX4_refuse wsX4_refuse) := goodIn_app (goodIn_of _ (by decide +kernel)) ggX4_letter_X4_refuse
set_option maxRecDepth 20000 in
theorem ggX4_letter_X2_isFull : GoodIn wsX4_letter wsX2_isFull := goodIn_r _ [12, 13, 28, 29] (by decide +kernel) (by decide +kernel)
set_option maxRecDepth 20000 in
theorem gX4_letter_X2_isFull : GoodIn wsX4_letter (wsV RX4 47 RX2 yX2_isFull wsX2_isFull) := goodIn_app (goodIn_of _ (by decide +kernel)) ggX4_letter_X2_isFull
set_option maxRecDepth 20000 in
theorem ggX4_letter_X2_add : GoodIn wsX4_letter wsX2_add := goodIn_r _ [17, 13, 18, 28, 29] (by decide +kernel) (by decide +kernel)
set_option maxRecDepth 20000 in
theorem gX4_letter_X2_add : GoodIn wsX4_letter (wsV RX4 51 RX2 yX2_add wsX2_add) := goodIn_app (goodIn_of _ (by decide +kernel)) ggX4_letter_X2_add
theorem dX4_letter_0 : decode cX4_letter 0 = .ok (.iload_n 1, 1) := by decide +kernel
theorem dX4_letter_1 : decode cX4_letter 1 = .ok (.ifCond .ge 10, 3) := by decide +kernel
theorem dX4_letter_4 : decode cX4_letter 4 = .ok (.aload_n 0, 1) := by decide +kernel
theorem dX4_letter_5 : decode cX4_letter 5 = .ok (.bipush (-4), 2) := by decide +kernel
theorem dX4_letter_7 : decode cX4_letter 7 = .ok (.invokevirtual 43, 3) := by decide +kernel
theorem dX4_letter_10 : decode cX4_letter 10 = .ok (.ireturn, 1) := by decide +kernel
theorem dX4_letter_11 : decode cX4_letter 11 = .ok (.iload_n 1, 1) := by decide +kernel
theorem dX4_letter_12 : decode cX4_letter 12 = .ok (.sipush 255, 3) := by decide +kernel
theorem dX4_letter_15 : decode cX4_letter 15 = .ok (.if_icmp .gt 13, 3) := by decide +kernel
theorem dX4_letter_18 : decode cX4_letter 18 = .ok (.aload_n 0, 1) := by decide +kernel
theorem dX4_letter_19 : decode cX4_letter 19 = .ok (.getfield 25, 3) := by decide +kernel
theorem dX4_letter_22 : decode cX4_letter 22 = .ok (.invokevirtual 47, 3) := by decide +kernel
theorem dX4_letter_25 : decode cX4_letter 25 = .ok (.ifCond .eq 10, 3) := by decide +kernel
theorem dX4_letter_28 : decode cX4_letter 28 = .ok (.aload_n 0, 1) := by decide +kernel
theorem dX4_letter_29 : decode cX4_letter 29 = .ok (.bipush (-6), 2) := by decide +kernel
theorem dX4_letter_31 : decode cX4_letter 31 = .ok (.invokevirtual 43, 3) := by decide +kernel
theorem dX4_letter_34 : decode cX4_letter 34 = .ok (.ireturn, 1) := by decide +kernel
theorem dX4_letter_35 : decode cX4_letter 35 = .ok (.aload_n 0, 1) := by decide +kernel
theorem dX4_letter_36 : decode cX4_letter 36 = .ok (.getfield 25, 3) := by decide +kernel
theorem dX4_letter_39 : decode cX4_letter 39 = .ok (.iload_n 1, 1) := by decide +kernel
theorem dX4_letter_40 : decode cX4_letter 40 = .ok (.invokevirtual 51, 3) := by decide +kernel
theorem dX4_letter_43 : decode cX4_letter 43 = .ok (.ireturn, 1) := by decide +kernel
set_option maxRecDepth 20000 in
theorem ggX4_house_X4_takeHouse : GoodIn wsX4_house wsX4_takeHouse := goodIn_r _ [6, 1, 7, 8, 9, 10, 11, 12, 13, 14, 15, 16, 17, 18, 19, 20, 21, 22, 23, 24, 25, 26, 27, 28, 29, 30, 31, 32, 33, 34, 35, 36, 37, 38, 39, 40, 41, 42, 43, 44, 45, 46, 47, 48, 49, 50, 51, 52, 53, 54, 55, 56, 57, 58, 59, 60, 61, 62, 63, 64, 65, 66, 67, 68, 69, 70, 71, 72, 73, 74, 75, 76, 77, 78, 79, 80, 81, 82, 83, 84, 85, 86, 87, 88, 89, 90, 91, 92, 93, 94, 95, 96, 97, 98, 99, 100, 101, 102, 103, 104, 105, 106, 107, 108, 109, 110, 111, 112, 113, 114, 115, 116, 117, 118, 119, 120, 121, 122, 123, 124, 125, 126, 127, 128, 129, 130, 131, 132, 133, 134, 135, 136, 137, 138, 139, 140, 141, 142, 147, 148, 149, 150, 151, 152, 153, 154, 155, 156, 157, 158, 159, 160, 161, 162, 163, 164] (by decide +kernel) (by decide +kernel)
set_option maxRecDepth 20000 in
theorem gX4_house_X4_takeHouse : GoodIn wsX4_house (wsV RX4 54 RX4 yX4_takeHouse wsX4_takeHouse) := goodIn_app (goodIn_of _ (by decide +kernel)) ggX4_house_X4_takeHouse
set_option maxRecDepth 20000 in
theorem ggX4_house_X2_forget : GoodIn wsX4_house wsX2_forget := goodIn_r _ [146, 14, 156, 157] (by decide +kernel) (by decide +kernel)
set_option maxRecDepth 20000 in
theorem gX4_house_X2_forget : GoodIn wsX4_house (wsV RX4 58 RX2 yX2_forget wsX2_forget) := goodIn_app (goodIn_of _ (by decide +kernel)) ggX4_house_X2_forget
theorem dX4_house_0 : decode cX4_house 0 = .ok (.aload_n 0, 1) := by decide +kernel
theorem dX4_house_1 : decode cX4_house 1 = .ok (.invokevirtual 54, 3) := by decide +kernel
theorem dX4_house_4 : decode cX4_house 4 = .ok (.istore_n 1, 1) := by decide +kernel
theorem dX4_house_5 : decode cX4_house 5 = .ok (.aload_n 0, 1) := by decide +kernel
theorem dX4_house_6 : decode cX4_house 6 = .ok (.getfield 25, 3) := by decide +kernel
theorem dX4_house_9 : decode cX4_house 9 = .ok (.invokevirtual 58, 3) := by decide +kernel
theorem dX4_house_12 : decode cX4_house 12 = .ok (.iload_n 1, 1) := by decide +kernel
theorem dX4_house_13 : decode cX4_house 13 = .ok (.ireturn, 1) := by decide +kernel
set_option maxRecDepth 20000 in
theorem ggX4_enter_X4_isKind : GoodIn wsX4_enter wsX4_isKind := goodIn_r _ [5] (by decide +kernel) (by decide +kernel)
set_option maxRecDepth 20000 in
theorem gX4_enter_X4_isKind : GoodIn wsX4_enter (va_wsS RX4 61 yX4_isKind wsX4_isKind) := goodIn_app (goodIn_of _ (by decide +kernel)) ggX4_enter_X4_isKind
set_option maxRecDepth 20000 in
theorem ggX4_enter_X4_refuse : GoodIn wsX4_enter wsX4_refuse := goodIn_r _ [9, 10, 47, 48, 49, 50, 51, 52, 53, 54, 55] (by decide +kernel) (by decide +kernel)
set_option maxRecDepth 20000 in
theorem gX4_enter_X4_refuse : GoodIn wsX4_enter (wsV RX4 43 RX4 yX4_refuse wsX4_refuse) := goodIn_app (goodIn_of _ (by decide +kernel)) ggX4_enter_X4_refuse
set_option maxRecDepth 20000 in
theorem ggX4_enter_X3_isFull : GoodIn wsX4_enter wsX3_isFull := goodIn_r _ [15, 16, 56, 57, 58, 59, 60, 61, 62] (by decide +kernel) (by decide +kernel)
set_option maxRecDepth 20000 in
theorem gX4_enter_X3_isFull : GoodIn wsX4_enter (wsV RX4 65 RX3 yX3_isFull wsX3_isFull) := goodIn_app (goodIn_of _ (by decide +kernel)) ggX4_enter_X3_isFull
set_option maxRecDepth 20000 in
theorem ggX4_enter_X3_couldComeIn : GoodIn wsX4_enter wsX3_couldComeIn := goodIn_r _ [20, 21, 12, 13, 14, 15, 16, 22, 23, 24, 25, 26, 27, 28, 29, 30, 31, 32, 33, 34, 35, 36, 37, 38, 56, 57, 58, 59, 60, 61, 62] (by decide +kernel) (by decide +kernel)
set_option maxRecDepth 20000 in
theorem gX4_enter_X3_couldComeIn : GoodIn wsX4_enter (wsV RX4 66 RX3 yX3_couldComeIn wsX3_couldComeIn) := goodIn_app (goodIn_of _ (by decide +kernel)) ggX4_enter_X3_couldComeIn
set_option maxRecDepth 20000 in
theorem ggX4_enter_X3_admit : GoodIn wsX4_enter wsX3_admit := goodIn_r _ [42, 16, 43, 44, 34, 45, 46, 22, 23, 24, 25, 26, 27, 28, 29, 56, 57, 58, 59, 60, 61, 62] (by decide +kernel) (by decide +kernel)
set_option maxRecDepth 20000 in
theorem gX4_enter_X3_admit : GoodIn wsX4_enter (wsV RX4 70 RX3 yX3_admit wsX3_admit) := goodIn_app (goodIn_of _ (by decide +kernel)) ggX4_enter_X3_admit
theorem dX4_enter_0 : decode cX4_enter 0 = .ok (.iload_n 1, 1) := by decide +kernel
theorem dX4_enter_1 : decode cX4_enter 1 = .ok (.invokestatic 61, 3) := by decide +kernel
theorem dX4_enter_4 : decode cX4_enter 4 = .ok (.ifCond .ne 10, 3) := by decide +kernel
theorem dX4_enter_7 : decode cX4_enter 7 = .ok (.aload_n 0, 1) := by decide +kernel
theorem dX4_enter_8 : decode cX4_enter 8 = .ok (.bipush (-2), 2) := by decide +kernel
theorem dX4_enter_10 : decode cX4_enter 10 = .ok (.invokevirtual 43, 3) := by decide +kernel
theorem dX4_enter_13 : decode cX4_enter 13 = .ok (.ireturn, 1) := by decide +kernel
theorem dX4_enter_14 : decode cX4_enter 14 = .ok (.iload_n 2, 1) := by decide +kernel
theorem dX4_enter_15 : decode cX4_enter 15 = .ok (.ifCond .lt 7, 3) := by decide +kernel
theorem dX4_enter_18 : decode cX4_enter 18 = .ok (.iload_n 3, 1) := by decide +kernel
theorem dX4_enter_19 : decode cX4_enter 19 = .ok (.ifCond .ge 10, 3) := by decide +kernel
theorem dX4_enter_22 : decode cX4_enter 22 = .ok (.aload_n 0, 1) := by decide +kernel
theorem dX4_enter_23 : decode cX4_enter 23 = .ok (.bipush (-4), 2) := by decide +kernel
theorem dX4_enter_25 : decode cX4_enter 25 = .ok (.invokevirtual 43, 3) := by decide +kernel
theorem dX4_enter_28 : decode cX4_enter 28 = .ok (.ireturn, 1) := by decide +kernel
theorem dX4_enter_29 : decode cX4_enter 29 = .ok (.iload_n 2, 1) := by decide +kernel
theorem dX4_enter_30 : decode cX4_enter 30 = .ok (.bipush 99, 2) := by decide +kernel
theorem dX4_enter_32 : decode cX4_enter 32 = .ok (.if_icmp .gt 19, 3) := by decide +kernel
theorem dX4_enter_35 : decode cX4_enter 35 = .ok (.iload_n 3, 1) := by decide +kernel
theorem dX4_enter_36 : decode cX4_enter 36 = .ok (.bipush 9, 2) := by decide +kernel
theorem dX4_enter_38 : decode cX4_enter 38 = .ok (.if_icmp .gt 13, 3) := by decide +kernel
theorem dX4_enter_41 : decode cX4_enter 41 = .ok (.aload_n 0, 1) := by decide +kernel
theorem dX4_enter_42 : decode cX4_enter 42 = .ok (.getfield 10, 3) := by decide +kernel
theorem dX4_enter_45 : decode cX4_enter 45 = .ok (.invokevirtual 65, 3) := by decide +kernel
theorem dX4_enter_48 : decode cX4_enter 48 = .ok (.ifCond .eq 10, 3) := by decide +kernel
theorem dX4_enter_51 : decode cX4_enter 51 = .ok (.aload_n 0, 1) := by decide +kernel
theorem dX4_enter_52 : decode cX4_enter 52 = .ok (.bipush (-6), 2) := by decide +kernel
theorem dX4_enter_54 : decode cX4_enter 54 = .ok (.invokevirtual 43, 3) := by decide +kernel
theorem dX4_enter_57 : decode cX4_enter 57 = .ok (.ireturn, 1) := by decide +kernel
theorem dX4_enter_58 : decode cX4_enter 58 = .ok (.aload_n 0, 1) := by decide +kernel
theorem dX4_enter_59 : decode cX4_enter 59 = .ok (.getfield 10, 3) := by decide +kernel
theorem dX4_enter_62 : decode cX4_enter 62 = .ok (.iload_n 1, 1) := by decide +kernel
theorem dX4_enter_63 : decode cX4_enter 63 = .ok (.iload_n 2, 1) := by decide +kernel
theorem dX4_enter_64 : decode cX4_enter 64 = .ok (.invokevirtual 66, 3) := by decide +kernel
theorem dX4_enter_67 : decode cX4_enter 67 = .ok (.ifCond .ne 10, 3) := by decide +kernel
theorem dX4_enter_70 : decode cX4_enter 70 = .ok (.aload_n 0, 1) := by decide +kernel
theorem dX4_enter_71 : decode cX4_enter 71 = .ok (.bipush (-3), 2) := by decide +kernel
theorem dX4_enter_73 : decode cX4_enter 73 = .ok (.invokevirtual 43, 3) := by decide +kernel
theorem dX4_enter_76 : decode cX4_enter 76 = .ok (.ireturn, 1) := by decide +kernel
theorem dX4_enter_77 : decode cX4_enter 77 = .ok (.aload_n 0, 1) := by decide +kernel
theorem dX4_enter_78 : decode cX4_enter 78 = .ok (.getfield 10, 3) := by decide +kernel
theorem dX4_enter_81 : decode cX4_enter 81 = .ok (.iload_n 1, 1) := by decide +kernel
theorem dX4_enter_82 : decode cX4_enter 82 = .ok (.iload_n 2, 1) := by decide +kernel
theorem dX4_enter_83 : decode cX4_enter 83 = .ok (.iload_n 3, 1) := by decide +kernel
theorem dX4_enter_84 : decode cX4_enter 84 = .ok (.invokevirtual 70, 3) := by decide +kernel
theorem dX4_enter_87 : decode cX4_enter 87 = .ok (.ireturn, 1) := by decide +kernel
set_option maxRecDepth 20000 in
theorem ggX4_lodger_X3_isAlive : GoodIn wsX4_lodger wsX3_isAlive := goodIn_r _ [10, 11, 12, 68, 69, 70, 71, 72, 73, 74] (by decide +kernel) (by decide +kernel)
set_option maxRecDepth 20000 in
theorem gX4_lodger_X3_isAlive : GoodIn wsX4_lodger (wsV RX4 74 RX3 yX3_isAlive wsX3_isAlive) := goodIn_app (goodIn_of _ (by decide +kernel)) ggX4_lodger_X3_isAlive
set_option maxRecDepth 20000 in
theorem ggX4_lodger_X4_refuse : GoodIn wsX4_lodger wsX4_refuse := goodIn_r _ [17, 18, 59, 60, 61, 62, 63, 64, 65, 66, 67] (by decide +kernel) (by decide +kernel)
set_option maxRecDepth 20000 in
theorem gX4_lodger_X4_refuse : GoodIn wsX4_lodger (wsV RX4 43 RX4 yX4_refuse wsX4_refuse) := goodIn_app (goodIn_of _ (by decide +kernel)) ggX4_lodger_X4_refuse
set_option maxRecDepth 20000 in
theorem ggX4_lodger_X3_chanceAfter : GoodIn wsX4_lodger wsX3_chanceAfter := goodIn_r _ [22, 23, 24, 25, 26, 9, 27, 28, 29, 30, 31, 32, 33, 34, 35, 36, 37, 38, 39, 40, 41, 42, 43, 44, 45, 46, 68, 69, 70, 71, 72, 73, 74] (by decide +kernel) (by decide +kernel)
set_option maxRecDepth 20000 in
theorem gX4_lodger_X3_chanceAfter : GoodIn wsX4_lodger (wsV RX4 89 RX3 yX3_chanceAfter wsX3_chanceAfter) := goodIn_app (goodIn_of _ (by decide +kernel)) ggX4_lodger_X3_chanceAfter
set_option maxRecDepth 20000 in
theorem ggX4_lodger_X3_climbAfter : GoodIn wsX4_lodger wsX3_climbAfter := goodIn_r _ [50, 23, 24, 25, 26, 9, 27, 28, 29, 30, 31, 32, 51, 52, 35, 53, 46, 68, 69, 70, 71, 72, 73, 74] (by decide +kernel) (by decide +kernel)
set_option maxRecDepth 20000 in
theorem gX4_lodger_X3_climbAfter : GoodIn wsX4_lodger (wsV RX4 93 RX3 yX3_climbAfter wsX3_climbAfter) := goodIn_app (goodIn_of _ (by decide +kernel)) ggX4_lodger_X3_climbAfter
set_option maxRecDepth 20000 in
theorem ggX4_lodger_X3_wishTold : GoodIn wsX4_lodger wsX3_wishTold := goodIn_r _ [57, 58, 68, 69, 70, 71, 72, 73, 74] (by decide +kernel) (by decide +kernel)
set_option maxRecDepth 20000 in
theorem gX4_lodger_X3_wishTold : GoodIn wsX4_lodger (wsV RX4 96 RX3 yX3_wishTold wsX3_wishTold) := goodIn_app (goodIn_of _ (by decide +kernel)) ggX4_lodger_X3_wishTold
theorem dX4_lodger_0 : decode cX4_lodger 0 = .ok (.aload_n 0, 1) := by decide +kernel
theorem dX4_lodger_1 : decode cX4_lodger 1 = .ok (.getfield 10, 3) := by decide +kernel
theorem dX4_lodger_4 : decode cX4_lodger 4 = .ok (.iload_n 1, 1) := by decide +kernel
theorem dX4_lodger_5 : decode cX4_lodger 5 = .ok (.invokevirtual 74, 3) := by decide +kernel
theorem dX4_lodger_8 : decode cX4_lodger 8 = .ok (.ifCond .ne 9, 3) := by decide +kernel
theorem dX4_lodger_11 : decode cX4_lodger 11 = .ok (.aload_n 0, 1) := by decide +kernel
theorem dX4_lodger_12 : decode cX4_lodger 12 = .ok (.iconst (-1), 1) := by decide +kernel
theorem dX4_lodger_13 : decode cX4_lodger 13 = .ok (.invokevirtual 43, 3) := by decide +kernel
theorem dX4_lodger_16 : decode cX4_lodger 16 = .ok (.ireturn, 1) := by decide +kernel
theorem dX4_lodger_17 : decode cX4_lodger 17 = .ok (.iload_n 2, 1) := by decide +kernel
theorem dX4_lodger_18 : decode cX4_lodger 18 = .ok (.tableswitch 111 0 6 #[42, 52, 62, 72, 82, 92, 102], 42) := by decide +kernel
theorem dX4_lodger_60 : decode cX4_lodger 60 = .ok (.aload_n 0, 1) := by decide +kernel
theorem dX4_lodger_61 : decode cX4_lodger 61 = .ok (.getfield 10, 3) := by decide +kernel
theorem dX4_lodger_64 : decode cX4_lodger 64 = .ok (.getfield 77, 3) := by decide +kernel
theorem dX4_lodger_67 : decode cX4_lodger 67 = .ok (.iload_n 1, 1) := by decide +kernel
theorem dX4_lodger_68 : decode cX4_lodger 68 = .ok (.iaload, 1) := by decide +kernel
theorem dX4_lodger_69 : decode cX4_lodger 69 = .ok (.ireturn, 1) := by decide +kernel
theorem dX4_lodger_70 : decode cX4_lodger 70 = .ok (.aload_n 0, 1) := by decide +kernel
theorem dX4_lodger_71 : decode cX4_lodger 71 = .ok (.getfield 10, 3) := by decide +kernel
theorem dX4_lodger_74 : decode cX4_lodger 74 = .ok (.getfield 80, 3) := by decide +kernel
theorem dX4_lodger_77 : decode cX4_lodger 77 = .ok (.iload_n 1, 1) := by decide +kernel
theorem dX4_lodger_78 : decode cX4_lodger 78 = .ok (.iaload, 1) := by decide +kernel
theorem dX4_lodger_79 : decode cX4_lodger 79 = .ok (.ireturn, 1) := by decide +kernel
theorem dX4_lodger_80 : decode cX4_lodger 80 = .ok (.aload_n 0, 1) := by decide +kernel
theorem dX4_lodger_81 : decode cX4_lodger 81 = .ok (.getfield 10, 3) := by decide +kernel
theorem dX4_lodger_84 : decode cX4_lodger 84 = .ok (.getfield 83, 3) := by decide +kernel
theorem dX4_lodger_87 : decode cX4_lodger 87 = .ok (.iload_n 1, 1) := by decide +kernel
theorem dX4_lodger_88 : decode cX4_lodger 88 = .ok (.iaload, 1) := by decide +kernel
theorem dX4_lodger_89 : decode cX4_lodger 89 = .ok (.ireturn, 1) := by decide +kernel
theorem dX4_lodger_90 : decode cX4_lodger 90 = .ok (.aload_n 0, 1) := by decide +kernel
theorem dX4_lodger_91 : decode cX4_lodger 91 = .ok (.getfield 10, 3) := by decide +kernel
theorem dX4_lodger_94 : decode cX4_lodger 94 = .ok (.getfield 86, 3) := by decide +kernel
theorem dX4_lodger_97 : decode cX4_lodger 97 = .ok (.iload_n 1, 1) := by decide +kernel
theorem dX4_lodger_98 : decode cX4_lodger 98 = .ok (.iaload, 1) := by decide +kernel
theorem dX4_lodger_99 : decode cX4_lodger 99 = .ok (.ireturn, 1) := by decide +kernel
theorem dX4_lodger_100 : decode cX4_lodger 100 = .ok (.aload_n 0, 1) := by decide +kernel
theorem dX4_lodger_101 : decode cX4_lodger 101 = .ok (.getfield 10, 3) := by decide +kernel
theorem dX4_lodger_104 : decode cX4_lodger 104 = .ok (.iload_n 1, 1) := by decide +kernel
theorem dX4_lodger_105 : decode cX4_lodger 105 = .ok (.iconst 0, 1) := by decide +kernel
theorem dX4_lodger_106 : decode cX4_lodger 106 = .ok (.invokevirtual 89, 3) := by decide +kernel
theorem dX4_lodger_109 : decode cX4_lodger 109 = .ok (.ireturn, 1) := by decide +kernel
theorem dX4_lodger_110 : decode cX4_lodger 110 = .ok (.aload_n 0, 1) := by decide +kernel
theorem dX4_lodger_111 : decode cX4_lodger 111 = .ok (.getfield 10, 3) := by decide +kernel
theorem dX4_lodger_114 : decode cX4_lodger 114 = .ok (.iload_n 1, 1) := by decide +kernel
theorem dX4_lodger_115 : decode cX4_lodger 115 = .ok (.iconst 0, 1) := by decide +kernel
theorem dX4_lodger_116 : decode cX4_lodger 116 = .ok (.invokevirtual 93, 3) := by decide +kernel
theorem dX4_lodger_119 : decode cX4_lodger 119 = .ok (.ireturn, 1) := by decide +kernel
theorem dX4_lodger_120 : decode cX4_lodger 120 = .ok (.aload_n 0, 1) := by decide +kernel
theorem dX4_lodger_121 : decode cX4_lodger 121 = .ok (.getfield 10, 3) := by decide +kernel
theorem dX4_lodger_124 : decode cX4_lodger 124 = .ok (.iload_n 1, 1) := by decide +kernel
theorem dX4_lodger_125 : decode cX4_lodger 125 = .ok (.invokevirtual 96, 3) := by decide +kernel
theorem dX4_lodger_128 : decode cX4_lodger 128 = .ok (.ireturn, 1) := by decide +kernel
theorem dX4_lodger_129 : decode cX4_lodger 129 = .ok (.aload_n 0, 1) := by decide +kernel
theorem dX4_lodger_130 : decode cX4_lodger 130 = .ok (.bipush (-2), 2) := by decide +kernel
theorem dX4_lodger_132 : decode cX4_lodger 132 = .ok (.invokevirtual 43, 3) := by decide +kernel
theorem dX4_lodger_135 : decode cX4_lodger 135 = .ok (.ireturn, 1) := by decide +kernel
set_option maxRecDepth 20000 in
theorem ggX4_wish_X3_isAlive : GoodIn wsX4_wish wsX3_isAlive := goodIn_r _ [7, 8, 9, 33, 34, 35, 36, 37, 38, 39] (by decide +kernel) (by decide +kernel)
set_option maxRecDepth 20000 in
theorem gX4_wish_X3_isAlive : GoodIn wsX4_wish (wsV RX4 74 RX3 yX3_isAlive wsX3_isAlive) := goodIn_app (goodIn_of _ (by decide +kernel)) ggX4_wish_X3_isAlive
set_option maxRecDepth 20000 in
theorem ggX4_wish_X4_refuse : GoodIn wsX4_wish wsX4_refuse := goodIn_r _ [14, 15, 24, 25, 26, 27, 28, 29, 30, 31, 32] (by decide +kernel) (by decide +kernel)
set_option maxRecDepth 20000 in
theorem gX4_wish_X4_refuse : GoodIn wsX4_wish (wsV RX4 43 RX4 yX4_refuse wsX4_refuse) := goodIn_app (goodIn_of _ (by decide +kernel)) ggX4_wish_X4_refuse
set_option maxRecDepth 20000 in
theorem ggX4_wish_X4_isFloor : GoodIn wsX4_wish wsX4_isFloor := goodIn_r _ [18] (by decide +kernel) (by decide +kernel)
set_option maxRecDepth 20000 in
theorem gX4_wish_X4_isFloor : GoodIn wsX4_wish (va_wsS RX4 99 yX4_isFloor wsX4_isFloor) := goodIn_app (goodIn_of _ (by decide +kernel)) ggX4_wish_X4_isFloor
set_option maxRecDepth 20000 in
theorem ggX4_wish_X3_wishTold : GoodIn wsX4_wish wsX3_wishTold := goodIn_r _ [22, 23, 33, 34, 35, 36, 37, 38, 39] (by decide +kernel) (by decide +kernel)
set_option maxRecDepth 20000 in
theorem gX4_wish_X3_wishTold : GoodIn wsX4_wish (wsV RX4 96 RX3 yX3_wishTold wsX3_wishTold) := goodIn_app (goodIn_of _ (by decide +kernel)) ggX4_wish_X3_wishTold
theorem dX4_wish_0 : decode cX4_wish 0 = .ok (.aload_n 0, 1) := by decide +kernel
theorem dX4_wish_1 : decode cX4_wish 1 = .ok (.getfield 10, 3) := by decide +kernel
theorem dX4_wish_4 : decode cX4_wish 4 = .ok (.iload_n 1, 1) := by decide +kernel
theorem dX4_wish_5 : decode cX4_wish 5 = .ok (.invokevirtual 74, 3) := by decide +kernel
theorem dX4_wish_8 : decode cX4_wish 8 = .ok (.ifCond .ne 9, 3) := by decide +kernel
theorem dX4_wish_11 : decode cX4_wish 11 = .ok (.aload_n 0, 1) := by decide +kernel
theorem dX4_wish_12 : decode cX4_wish 12 = .ok (.iconst (-1), 1) := by decide +kernel
theorem dX4_wish_13 : decode cX4_wish 13 = .ok (.invokevirtual 43, 3) := by decide +kernel
theorem dX4_wish_16 : decode cX4_wish 16 = .ok (.ireturn, 1) := by decide +kernel
theorem dX4_wish_17 : decode cX4_wish 17 = .ok (.iload_n 2, 1) := by decide +kernel
theorem dX4_wish_18 : decode cX4_wish 18 = .ok (.iconst (-1), 1) := by decide +kernel
theorem dX4_wish_19 : decode cX4_wish 19 = .ok (.if_icmp .eq 16, 3) := by decide +kernel
theorem dX4_wish_22 : decode cX4_wish 22 = .ok (.iload_n 2, 1) := by decide +kernel
theorem dX4_wish_23 : decode cX4_wish 23 = .ok (.invokestatic 99, 3) := by decide +kernel
theorem dX4_wish_26 : decode cX4_wish 26 = .ok (.ifCond .ne 9, 3) := by decide +kernel
theorem dX4_wish_29 : decode cX4_wish 29 = .ok (.aload_n 0, 1) := by decide +kernel
theorem dX4_wish_30 : decode cX4_wish 30 = .ok (.iconst (-1), 1) := by decide +kernel
theorem dX4_wish_31 : decode cX4_wish 31 = .ok (.invokevirtual 43, 3) := by decide +kernel
theorem dX4_wish_34 : decode cX4_wish 34 = .ok (.ireturn, 1) := by decide +kernel
theorem dX4_wish_35 : decode cX4_wish 35 = .ok (.aload_n 0, 1) := by decide +kernel
theorem dX4_wish_36 : decode cX4_wish 36 = .ok (.getfield 10, 3) := by decide +kernel
theorem dX4_wish_39 : decode cX4_wish 39 = .ok (.iload_n 1, 1) := by decide +kernel
theorem dX4_wish_40 : decode cX4_wish 40 = .ok (.invokevirtual 96, 3) := by decide +kernel
theorem dX4_wish_43 : decode cX4_wish 43 = .ok (.istore_n 3, 1) := by decide +kernel
theorem dX4_wish_44 : decode cX4_wish 44 = .ok (.aload_n 0, 1) := by decide +kernel
theorem dX4_wish_45 : decode cX4_wish 45 = .ok (.getfield 10, 3) := by decide +kernel
theorem dX4_wish_48 : decode cX4_wish 48 = .ok (.getfield 102, 3) := by decide +kernel
theorem dX4_wish_51 : decode cX4_wish 51 = .ok (.iload_n 1, 1) := by decide +kernel
theorem dX4_wish_52 : decode cX4_wish 52 = .ok (.iload_n 2, 1) := by decide +kernel
theorem dX4_wish_53 : decode cX4_wish 53 = .ok (.iastore, 1) := by decide +kernel
theorem dX4_wish_54 : decode cX4_wish 54 = .ok (.iload_n 3, 1) := by decide +kernel
theorem dX4_wish_55 : decode cX4_wish 55 = .ok (.ireturn, 1) := by decide +kernel
set_option maxRecDepth 20000 in
theorem ggX4_year_X3_areAlive : GoodIn wsX4_year wsX3_areAlive := goodIn_r _ [7, 8, 9, 10, 6, 11, 12, 13, 14, 15, 16, 17, 70, 71, 72, 73, 74, 75, 76] (by decide +kernel) (by decide +kernel)
set_option maxRecDepth 20000 in
theorem gX4_year_X3_areAlive : GoodIn wsX4_year (wsV RX4 105 RX3 yX3_areAlive wsX3_areAlive) := goodIn_app (goodIn_of _ (by decide +kernel)) ggX4_year_X3_areAlive
set_option maxRecDepth 20000 in
theorem ggX4_year_X4_refuse : GoodIn wsX4_year wsX4_refuse := goodIn_r _ [22, 23, 61, 62, 63, 64, 65, 66, 67, 68, 69] (by decide +kernel) (by decide +kernel)
set_option maxRecDepth 20000 in
theorem gX4_year_X4_refuse : GoodIn wsX4_year (wsV RX4 43 RX4 yX4_refuse wsX4_refuse) := goodIn_app (goodIn_of _ (by decide +kernel)) ggX4_year_X4_refuse
set_option maxRecDepth 20000 in
theorem ggX4_year_X3_passYear : GoodIn wsX4_year wsX3_passYear := goodIn_r _ [27, 17, 28, 29, 30, 31, 32, 6, 33, 34, 35, 36, 8, 9, 10, 11, 12, 13, 14, 15, 16, 37, 38, 39, 40, 41, 42, 43, 44, 45, 46, 47, 48, 49, 50, 51, 52, 53, 54, 55, 56, 57, 58, 59, 60, 70, 71, 72, 73, 74, 75, 76] (by decide +kernel) (by decide +kernel)
set_option maxRecDepth 20000 in
theorem gX4_year_X3_passYear : GoodIn wsX4_year (wsV RX4 112 RX3 yX3_passYear wsX3_passYear) := goodIn_app (goodIn_of _ (by decide +kernel)) ggX4_year_X3_passYear
theorem dX4_year_0 : decode cX4_year 0 = .ok (.aload_n 0, 1) := by decide +kernel
theorem dX4_year_1 : decode cX4_year 1 = .ok (.getfield 10, 3) := by decide +kernel
theorem dX4_year_4 : decode cX4_year 4 = .ok (.iload_n 1, 1) := by decide +kernel
theorem dX4_year_5 : decode cX4_year 5 = .ok (.invokevirtual 105, 3) := by decide +kernel
theorem dX4_year_8 : decode cX4_year 8 = .ok (.ifCond .ne 9, 3) := by decide +kernel
theorem dX4_year_11 : decode cX4_year 11 = .ok (.aload_n 0, 1) := by decide +kernel
theorem dX4_year_12 : decode cX4_year 12 = .ok (.iconst (-1), 1) := by decide +kernel
theorem dX4_year_13 : decode cX4_year 13 = .ok (.invokevirtual 43, 3) := by decide +kernel
theorem dX4_year_16 : decode cX4_year 16 = .ok (.ireturn, 1) := by decide +kernel
theorem dX4_year_17 : decode cX4_year 17 = .ok (.aload_n 0, 1) := by decide +kernel
theorem dX4_year_18 : decode cX4_year 18 = .ok (.getfield 10, 3) := by decide +kernel
theorem dX4_year_21 : decode cX4_year 21 = .ok (.getfield 108, 3) := by decide +kernel
theorem dX4_year_24 : decode cX4_year 24 = .ok (.bipush 99, 2) := by decide +kernel
theorem dX4_year_26 : decode cX4_year 26 = .ok (.if_icmp .lt 10, 3) := by decide +kernel
theorem dX4_year_29 : decode cX4_year 29 = .ok (.aload_n 0, 1) := by decide +kernel
theorem dX4_year_30 : decode cX4_year 30 = .ok (.bipush (-6), 2) := by decide +kernel
theorem dX4_year_32 : decode cX4_year 32 = .ok (.invokevirtual 43, 3) := by decide +kernel
theorem dX4_year_35 : decode cX4_year 35 = .ok (.ireturn, 1) := by decide +kernel
theorem dX4_year_36 : decode cX4_year 36 = .ok (.aload_n 0, 1) := by decide +kernel
theorem dX4_year_37 : decode cX4_year 37 = .ok (.getfield 10, 3) := by decide +kernel
theorem dX4_year_40 : decode cX4_year 40 = .ok (.iload_n 1, 1) := by decide +kernel
theorem dX4_year_41 : decode cX4_year 41 = .ok (.invokevirtual 112, 3) := by decide +kernel
theorem dX4_year_44 : decode cX4_year 44 = .ok (.ireturn, 1) := by decide +kernel
set_option maxRecDepth 20000 in
theorem ggX4_on_X4_isFloor : GoodIn wsX4_on wsX4_isFloor := goodIn_r _ [5] (by decide +kernel) (by decide +kernel)
set_option maxRecDepth 20000 in
theorem gX4_on_X4_isFloor : GoodIn wsX4_on (va_wsS RX4 99 yX4_isFloor wsX4_isFloor) := goodIn_app (goodIn_of _ (by decide +kernel)) ggX4_on_X4_isFloor
set_option maxRecDepth 20000 in
theorem ggX4_on_X4_refuse : GoodIn wsX4_on wsX4_refuse := goodIn_r _ [9, 10, 22, 23, 24, 25, 26, 27, 28, 29, 30] (by decide +kernel) (by decide +kernel)
set_option maxRecDepth 20000 in
theorem gX4_on_X4_refuse : GoodIn wsX4_on (wsV RX4 43 RX4 yX4_refuse wsX4_refuse) := goodIn_app (goodIn_of _ (by decide +kernel)) ggX4_on_X4_refuse
set_option maxRecDepth 20000 in
theorem ggX4_on_X3_whoLivesOn : GoodIn wsX4_on wsX3_whoLivesOn := goodIn_r _ [15, 16, 17, 18, 19, 14, 20, 21, 31, 32, 33, 34, 35, 36, 37] (by decide +kernel) (by decide +kernel)
set_option maxRecDepth 20000 in
theorem gX4_on_X3_whoLivesOn : GoodIn wsX4_on (wsV RX4 115 RX3 yX3_whoLivesOn wsX3_whoLivesOn) := goodIn_app (goodIn_of _ (by decide +kernel)) ggX4_on_X3_whoLivesOn
theorem dX4_on_0 : decode cX4_on 0 = .ok (.iload_n 1, 1) := by decide +kernel
theorem dX4_on_1 : decode cX4_on 1 = .ok (.invokestatic 99, 3) := by decide +kernel
theorem dX4_on_4 : decode cX4_on 4 = .ok (.ifCond .ne 9, 3) := by decide +kernel
theorem dX4_on_7 : decode cX4_on 7 = .ok (.aload_n 0, 1) := by decide +kernel
theorem dX4_on_8 : decode cX4_on 8 = .ok (.iconst (-1), 1) := by decide +kernel
theorem dX4_on_9 : decode cX4_on 9 = .ok (.invokevirtual 43, 3) := by decide +kernel
theorem dX4_on_12 : decode cX4_on 12 = .ok (.ireturn, 1) := by decide +kernel
theorem dX4_on_13 : decode cX4_on 13 = .ok (.aload_n 0, 1) := by decide +kernel
theorem dX4_on_14 : decode cX4_on 14 = .ok (.getfield 10, 3) := by decide +kernel
theorem dX4_on_17 : decode cX4_on 17 = .ok (.iload_n 1, 1) := by decide +kernel
theorem dX4_on_18 : decode cX4_on 18 = .ok (.invokevirtual 115, 3) := by decide +kernel
theorem dX4_on_21 : decode cX4_on 21 = .ok (.istore_n 2, 1) := by decide +kernel
theorem dX4_on_22 : decode cX4_on 22 = .ok (.iload_n 2, 1) := by decide +kernel
theorem dX4_on_23 : decode cX4_on 23 = .ok (.ifCond .ge 8, 3) := by decide +kernel
theorem dX4_on_26 : decode cX4_on 26 = .ok (.bipush (-9), 2) := by decide +kernel
theorem dX4_on_28 : decode cX4_on 28 = .ok (.goto 4, 3) := by decide +kernel
theorem dX4_on_31 : decode cX4_on 31 = .ok (.iload_n 2, 1) := by decide +kernel
theorem dX4_on_32 : decode cX4_on 32 = .ok (.ireturn, 1) := by decide +kernel
set_option maxRecDepth 20000 in
theorem ggX4_likely_X3_isAlive : GoodIn wsX4_likely wsX3_isAlive := goodIn_r _ [9, 10, 11, 102, 103, 104, 105, 106, 107, 108] (by decide +kernel) (by decide +kernel)
set_option maxRecDepth 20000 in
theorem gX4_likely_X3_isAlive : GoodIn wsX4_likely (wsV RX4 74 RX3 yX3_isAlive wsX3_isAlive) := goodIn_app (goodIn_of _ (by decide +kernel)) ggX4_likely_X3_isAlive
set_option maxRecDepth 20000 in
theorem ggX4_likely_X4_isFloor : GoodIn wsX4_likely wsX4_isFloor := goodIn_r _ [15] (by decide +kernel) (by decide +kernel)
set_option maxRecDepth 20000 in
theorem gX4_likely_X4_isFloor : GoodIn wsX4_likely (va_wsS RX4 99 yX4_isFloor wsX4_isFloor) := goodIn_app (goodIn_of _ (by decide +kernel)) ggX4_likely_X4_isFloor
set_option maxRecDepth 20000 in
theorem ggX4_likely_X4_refuseLong : GoodIn wsX4_likely wsX4_refuseLong := goodIn_r _ [19, 20, 21, 22, 23, 14, 24, 25, 90, 91, 92, 93, 94, 95, 96, 97, 98] (by decide +kernel) (by decide +kernel)
set_option maxRecDepth 20000 in
theorem gX4_likely_X4_refuseLong : GoodIn wsX4_likely (wsV RX4 118 RX4 yX4_refuseLong wsX4_refuseLong) := goodIn_app (goodIn_of _ (by decide +kernel)) ggX4_likely_X4_refuseLong
set_option maxRecDepth 20000 in
theorem ggX4_likely_X1_reckon : GoodIn wsX4_likely wsX1_reckon := goodIn_r _ [30, 31, 32, 33, 34, 35, 36, 37, 38, 39, 40, 41, 42, 29, 43, 44, 45, 6, 7, 8, 9, 10, 11, 46, 47, 48, 49, 50, 51, 52, 53, 54, 55, 56, 57, 58, 59, 60, 61, 62, 63, 64, 65, 66, 67, 68, 69, 70, 71, 72, 73, 74, 75, 76, 77, 78, 79, 80, 81, 82, 83, 84, 85, 86, 87, 88, 89, 102, 103, 104, 105, 106, 107, 108, 99, 100, 101] (by decide +kernel) (by decide +kernel)
set_option maxRecDepth 20000 in
theorem gX4_likely_X1_reckon : GoodIn wsX4_likely (wsV RX4 122 RX1 yX1_reckon wsX1_reckon) := goodIn_app (goodIn_of _ (by decide +kernel)) ggX4_likely_X1_reckon
theorem dX4_likely_0 : decode cX4_likely 0 = .ok (.aload_n 0, 1) := by decide +kernel
theorem dX4_likely_1 : decode cX4_likely 1 = .ok (.getfield 10, 3) := by decide +kernel
theorem dX4_likely_4 : decode cX4_likely 4 = .ok (.iload_n 1, 1) := by decide +kernel
theorem dX4_likely_5 : decode cX4_likely 5 = .ok (.invokevirtual 74, 3) := by decide +kernel
theorem dX4_likely_8 : decode cX4_likely 8 = .ok (.ifCond .eq 10, 3) := by decide +kernel
theorem dX4_likely_11 : decode cX4_likely 11 = .ok (.iload_n 2, 1) := by decide +kernel
theorem dX4_likely_12 : decode cX4_likely 12 = .ok (.invokestatic 99, 3) := by decide +kernel
theorem dX4_likely_15 : decode cX4_likely 15 = .ok (.ifCond .ne 9, 3) := by decide +kernel
theorem dX4_likely_18 : decode cX4_likely 18 = .ok (.aload_n 0, 1) := by decide +kernel
theorem dX4_likely_19 : decode cX4_likely 19 = .ok (.iconst (-1), 1) := by decide +kernel
theorem dX4_likely_20 : decode cX4_likely 20 = .ok (.invokevirtual 118, 3) := by decide +kernel
theorem dX4_likely_23 : decode cX4_likely 23 = .ok (.lreturn, 1) := by decide +kernel
theorem dX4_likely_24 : decode cX4_likely 24 = .ok (.iload_n 3, 1) := by decide +kernel
theorem dX4_likely_25 : decode cX4_likely 25 = .ok (.iconst 1, 1) := by decide +kernel
theorem dX4_likely_26 : decode cX4_likely 26 = .ok (.if_icmp .ge 10, 3) := by decide +kernel
theorem dX4_likely_29 : decode cX4_likely 29 = .ok (.aload_n 0, 1) := by decide +kernel
theorem dX4_likely_30 : decode cX4_likely 30 = .ok (.bipush (-4), 2) := by decide +kernel
theorem dX4_likely_32 : decode cX4_likely 32 = .ok (.invokevirtual 118, 3) := by decide +kernel
theorem dX4_likely_35 : decode cX4_likely 35 = .ok (.lreturn, 1) := by decide +kernel
theorem dX4_likely_36 : decode cX4_likely 36 = .ok (.iload_n 3, 1) := by decide +kernel
theorem dX4_likely_37 : decode cX4_likely 37 = .ok (.iconst 2, 1) := by decide +kernel
theorem dX4_likely_38 : decode cX4_likely 38 = .ok (.if_icmp .le 10, 3) := by decide +kernel
theorem dX4_likely_41 : decode cX4_likely 41 = .ok (.aload_n 0, 1) := by decide +kernel
theorem dX4_likely_42 : decode cX4_likely 42 = .ok (.bipush (-6), 2) := by decide +kernel
theorem dX4_likely_44 : decode cX4_likely 44 = .ok (.invokevirtual 118, 3) := by decide +kernel
theorem dX4_likely_47 : decode cX4_likely 47 = .ok (.lreturn, 1) := by decide +kernel
theorem dX4_likely_48 : decode cX4_likely 48 = .ok (.iload 4, 2) := by decide +kernel
theorem dX4_likely_50 : decode cX4_likely 50 = .ok (.ifCond .eq 16, 3) := by decide +kernel
theorem dX4_likely_53 : decode cX4_likely 53 = .ok (.iload 4, 2) := by decide +kernel
theorem dX4_likely_55 : decode cX4_likely 55 = .ok (.iconst 1, 1) := by decide +kernel
theorem dX4_likely_56 : decode cX4_likely 56 = .ok (.if_icmp .eq 10, 3) := by decide +kernel
theorem dX4_likely_59 : decode cX4_likely 59 = .ok (.aload_n 0, 1) := by decide +kernel
theorem dX4_likely_60 : decode cX4_likely 60 = .ok (.bipush (-2), 2) := by decide +kernel
theorem dX4_likely_62 : decode cX4_likely 62 = .ok (.invokevirtual 118, 3) := by decide +kernel
theorem dX4_likely_65 : decode cX4_likely 65 = .ok (.lreturn, 1) := by decide +kernel
theorem dX4_likely_66 : decode cX4_likely 66 = .ok (.aload_n 0, 1) := by decide +kernel
theorem dX4_likely_67 : decode cX4_likely 67 = .ok (.getfield 32, 3) := by decide +kernel
theorem dX4_likely_70 : decode cX4_likely 70 = .ok (.aload_n 0, 1) := by decide +kernel
theorem dX4_likely_71 : decode cX4_likely 71 = .ok (.getfield 10, 3) := by decide +kernel
theorem dX4_likely_74 : decode cX4_likely 74 = .ok (.iload_n 1, 1) := by decide +kernel
theorem dX4_likely_75 : decode cX4_likely 75 = .ok (.iload_n 2, 1) := by decide +kernel
theorem dX4_likely_76 : decode cX4_likely 76 = .ok (.iload_n 3, 1) := by decide +kernel
theorem dX4_likely_77 : decode cX4_likely 77 = .ok (.invokevirtual 122, 3) := by decide +kernel
theorem dX4_likely_80 : decode cX4_likely 80 = .ok (.iload 4, 2) := by decide +kernel
theorem dX4_likely_82 : decode cX4_likely 82 = .ok (.ifCond .ne 13, 3) := by decide +kernel
theorem dX4_likely_85 : decode cX4_likely 85 = .ok (.aload_n 0, 1) := by decide +kernel
theorem dX4_likely_86 : decode cX4_likely 86 = .ok (.getfield 32, 3) := by decide +kernel
theorem dX4_likely_89 : decode cX4_likely 89 = .ok (.getfield 126, 3) := by decide +kernel
theorem dX4_likely_92 : decode cX4_likely 92 = .ok (.goto 10, 3) := by decide +kernel
theorem dX4_likely_95 : decode cX4_likely 95 = .ok (.aload_n 0, 1) := by decide +kernel
theorem dX4_likely_96 : decode cX4_likely 96 = .ok (.getfield 32, 3) := by decide +kernel
theorem dX4_likely_99 : decode cX4_likely 99 = .ok (.getfield 130, 3) := by decide +kernel
theorem dX4_likely_102 : decode cX4_likely 102 = .ok (.lreturn, 1) := by decide +kernel
set_option maxRecDepth 20000 in
theorem ggX4_mean_X3_isAlive : GoodIn wsX4_mean wsX3_isAlive := goodIn_r _ [6, 7, 8, 46, 47, 48, 49, 50, 51, 52] (by decide +kernel) (by decide +kernel)
set_option maxRecDepth 20000 in
theorem gX4_mean_X3_isAlive : GoodIn wsX4_mean (wsV RX4 74 RX3 yX3_isAlive wsX3_isAlive) := goodIn_app (goodIn_of _ (by decide +kernel)) ggX4_mean_X3_isAlive
set_option maxRecDepth 20000 in
theorem ggX4_mean_X3_chanceAfter : GoodIn wsX4_mean wsX3_chanceAfter := goodIn_r _ [12, 13, 14, 15, 16, 5, 17, 18, 19, 20, 21, 22, 23, 24, 25, 26, 27, 28, 29, 30, 31, 32, 33, 34, 35, 36, 46, 47, 48, 49, 50, 51, 52] (by decide +kernel) (by decide +kernel)
set_option maxRecDepth 20000 in
theorem gX4_mean_X3_chanceAfter : GoodIn wsX4_mean (wsV RX4 89 RX3 yX3_chanceAfter wsX3_chanceAfter) := goodIn_app (goodIn_of _ (by decide +kernel)) ggX4_mean_X3_chanceAfter
theorem dX4_mean_0 : decode cX4_mean 0 = .ok (.iconst 0, 1) := by decide +kernel
theorem dX4_mean_1 : decode cX4_mean 1 = .ok (.istore_n 1, 1) := by decide +kernel
theorem dX4_mean_2 : decode cX4_mean 2 = .ok (.iconst 0, 1) := by decide +kernel
theorem dX4_mean_3 : decode cX4_mean 3 = .ok (.istore_n 2, 1) := by decide +kernel
theorem dX4_mean_4 : decode cX4_mean 4 = .ok (.iload_n 2, 1) := by decide +kernel
theorem dX4_mean_5 : decode cX4_mean 5 = .ok (.bipush 8, 2) := by decide +kernel
theorem dX4_mean_7 : decode cX4_mean 7 = .ok (.if_icmp .ge 32, 3) := by decide +kernel
theorem dX4_mean_10 : decode cX4_mean 10 = .ok (.aload_n 0, 1) := by decide +kernel
theorem dX4_mean_11 : decode cX4_mean 11 = .ok (.getfield 10, 3) := by decide +kernel
theorem dX4_mean_14 : decode cX4_mean 14 = .ok (.iload_n 2, 1) := by decide +kernel
theorem dX4_mean_15 : decode cX4_mean 15 = .ok (.invokevirtual 74, 3) := by decide +kernel
theorem dX4_mean_18 : decode cX4_mean 18 = .ok (.ifCond .eq 15, 3) := by decide +kernel
theorem dX4_mean_21 : decode cX4_mean 21 = .ok (.iload_n 1, 1) := by decide +kernel
theorem dX4_mean_22 : decode cX4_mean 22 = .ok (.aload_n 0, 1) := by decide +kernel
theorem dX4_mean_23 : decode cX4_mean 23 = .ok (.getfield 10, 3) := by decide +kernel
theorem dX4_mean_26 : decode cX4_mean 26 = .ok (.iload_n 2, 1) := by decide +kernel
theorem dX4_mean_27 : decode cX4_mean 27 = .ok (.iconst 0, 1) := by decide +kernel
theorem dX4_mean_28 : decode cX4_mean 28 = .ok (.invokevirtual 89, 3) := by decide +kernel
theorem dX4_mean_31 : decode cX4_mean 31 = .ok (.iadd, 1) := by decide +kernel
theorem dX4_mean_32 : decode cX4_mean 32 = .ok (.istore_n 1, 1) := by decide +kernel
theorem dX4_mean_33 : decode cX4_mean 33 = .ok (.iinc 2 1, 3) := by decide +kernel
theorem dX4_mean_36 : decode cX4_mean 36 = .ok (.goto (-32), 3) := by decide +kernel
theorem dX4_mean_39 : decode cX4_mean 39 = .ok (.iload_n 1, 1) := by decide +kernel
theorem dX4_mean_40 : decode cX4_mean 40 = .ok (.ireturn, 1) := by decide +kernel
set_option maxRecDepth 20000 in
theorem ggX4_deaths_X3_isAlive : GoodIn wsX4_deaths wsX3_isAlive := goodIn_r _ [7, 8, 9, 88, 89, 90, 91, 92, 93, 94] (by decide +kernel) (by decide +kernel)
set_option maxRecDepth 20000 in
theorem gX4_deaths_X3_isAlive : GoodIn wsX4_deaths (wsV RX4 74 RX3 yX3_isAlive wsX3_isAlive) := goodIn_app (goodIn_of _ (by decide +kernel)) ggX4_deaths_X3_isAlive
set_option maxRecDepth 20000 in
theorem ggX4_deaths_X4_isFloor : GoodIn wsX4_deaths wsX4_isFloor := goodIn_r _ [13] (by decide +kernel) (by decide +kernel)
set_option maxRecDepth 20000 in
theorem gX4_deaths_X4_isFloor : GoodIn wsX4_deaths (va_wsS RX4 99 yX4_isFloor wsX4_isFloor) := goodIn_app (goodIn_of _ (by decide +kernel)) ggX4_deaths_X4_isFloor
set_option maxRecDepth 20000 in
theorem ggX4_deaths_X4_refuse : GoodIn wsX4_deaths wsX4_refuse := goodIn_r _ [17, 18, 79, 80, 81, 82, 83, 84, 85, 86, 87] (by decide +kernel) (by decide +kernel)
set_option maxRecDepth 20000 in
theorem gX4_deaths_X4_refuse : GoodIn wsX4_deaths (wsV RX4 43 RX4 yX4_refuse wsX4_refuse) := goodIn_app (goodIn_of _ (by decide +kernel)) ggX4_deaths_X4_refuse
set_option maxRecDepth 20000 in
theorem ggX4_deaths_X3_staysDown : GoodIn wsX4_deaths wsX3_staysDown := goodIn_r _ [22, 23, 9, 88, 89, 90, 91, 92, 93, 94] (by decide +kernel) (by decide +kernel)
set_option maxRecDepth 20000 in
theorem gX4_deaths_X3_staysDown : GoodIn wsX4_deaths (wsV RX4 133 RX3 yX3_staysDown wsX3_staysDown) := goodIn_app (goodIn_of _ (by decide +kernel)) ggX4_deaths_X3_staysDown
set_option maxRecDepth 20000 in
theorem ggX4_deaths_X3_living : GoodIn wsX4_deaths wsX3_living := goodIn_r _ [27, 28, 4, 5, 6, 7, 8, 9, 88, 89, 90, 91, 92, 93, 94] (by decide +kernel) (by decide +kernel)
set_option maxRecDepth 20000 in
theorem gX4_deaths_X3_living : GoodIn wsX4_deaths (wsV RX4 136 RX3 yX3_living wsX3_living) := goodIn_app (goodIn_of _ (by decide +kernel)) ggX4_deaths_X3_living
set_option maxRecDepth 20000 in
theorem ggX4_deaths_X3_floorsOf : GoodIn wsX4_deaths wsX3_floorsOf := goodIn_r _ [32, 9, 33, 34, 6, 35, 88, 89, 90, 91, 92, 93, 94] (by decide +kernel) (by decide +kernel)
set_option maxRecDepth 20000 in
theorem gX4_deaths_X3_floorsOf : GoodIn wsX4_deaths (wsV RX4 139 RX3 yX3_floorsOf wsX3_floorsOf) := goodIn_app (goodIn_of _ (by decide +kernel)) ggX4_deaths_X3_floorsOf
set_option maxRecDepth 20000 in
theorem ggX4_deaths_X3_floorsUp : GoodIn wsX4_deaths wsX3_floorsUp := goodIn_r _ [39, 9, 40, 20, 21, 6, 22, 23, 41, 42, 43, 44, 45, 46, 47, 88, 89, 90, 91, 92, 93, 94] (by decide +kernel) (by decide +kernel)
set_option maxRecDepth 20000 in
theorem gX4_deaths_X3_floorsUp : GoodIn wsX4_deaths (wsV RX4 142 RX3 yX3_floorsUp wsX3_floorsUp) := goodIn_app (goodIn_of _ (by decide +kernel)) ggX4_deaths_X3_floorsUp
set_option maxRecDepth 20000 in
theorem ggX4_deaths_X3_likeliestAbove : GoodIn wsX4_deaths wsX3_likeliestAbove := goodIn_r _ [51, 9, 28, 4, 5, 6, 7, 8, 33, 34, 35, 52, 53, 54, 55, 23, 56, 57, 58, 59, 60, 61, 62, 63, 64, 65, 66, 67, 68, 69, 70, 71, 72, 73, 74, 75, 76, 77, 78, 88, 89, 90, 91, 92, 93, 94] (by decide +kernel) (by decide +kernel)
set_option maxRecDepth 20000 in
theorem gX4_deaths_X3_likeliestAbove : GoodIn wsX4_deaths (wsV RX4 145 RX3 yX3_likeliestAbove wsX3_likeliestAbove) := goodIn_app (goodIn_of _ (by decide +kernel)) ggX4_deaths_X3_likeliestAbove
theorem dX4_deaths_0 : decode cX4_deaths 0 = .ok (.aload_n 0, 1) := by decide +kernel
theorem dX4_deaths_1 : decode cX4_deaths 1 = .ok (.getfield 10, 3) := by decide +kernel
theorem dX4_deaths_4 : decode cX4_deaths 4 = .ok (.iload_n 1, 1) := by decide +kernel
theorem dX4_deaths_5 : decode cX4_deaths 5 = .ok (.invokevirtual 74, 3) := by decide +kernel
theorem dX4_deaths_8 : decode cX4_deaths 8 = .ok (.ifCond .eq 10, 3) := by decide +kernel
theorem dX4_deaths_11 : decode cX4_deaths 11 = .ok (.iload_n 2, 1) := by decide +kernel
theorem dX4_deaths_12 : decode cX4_deaths 12 = .ok (.invokestatic 99, 3) := by decide +kernel
theorem dX4_deaths_15 : decode cX4_deaths 15 = .ok (.ifCond .ne 9, 3) := by decide +kernel
theorem dX4_deaths_18 : decode cX4_deaths 18 = .ok (.aload_n 0, 1) := by decide +kernel
theorem dX4_deaths_19 : decode cX4_deaths 19 = .ok (.iconst (-1), 1) := by decide +kernel
theorem dX4_deaths_20 : decode cX4_deaths 20 = .ok (.invokevirtual 43, 3) := by decide +kernel
theorem dX4_deaths_23 : decode cX4_deaths 23 = .ok (.ireturn, 1) := by decide +kernel
theorem dX4_deaths_24 : decode cX4_deaths 24 = .ok (.iload_n 3, 1) := by decide +kernel
theorem dX4_deaths_25 : decode cX4_deaths 25 = .ok (.ifCond .eq 15, 3) := by decide +kernel
theorem dX4_deaths_28 : decode cX4_deaths 28 = .ok (.iload_n 3, 1) := by decide +kernel
theorem dX4_deaths_29 : decode cX4_deaths 29 = .ok (.iconst 1, 1) := by decide +kernel
theorem dX4_deaths_30 : decode cX4_deaths 30 = .ok (.if_icmp .eq 10, 3) := by decide +kernel
theorem dX4_deaths_33 : decode cX4_deaths 33 = .ok (.aload_n 0, 1) := by decide +kernel
theorem dX4_deaths_34 : decode cX4_deaths 34 = .ok (.bipush (-2), 2) := by decide +kernel
theorem dX4_deaths_36 : decode cX4_deaths 36 = .ok (.invokevirtual 43, 3) := by decide +kernel
theorem dX4_deaths_39 : decode cX4_deaths 39 = .ok (.ireturn, 1) := by decide +kernel
theorem dX4_deaths_40 : decode cX4_deaths 40 = .ok (.iload_n 2, 1) := by decide +kernel
theorem dX4_deaths_41 : decode cX4_deaths 41 = .ok (.aload_n 0, 1) := by decide +kernel
theorem dX4_deaths_42 : decode cX4_deaths 42 = .ok (.getfield 10, 3) := by decide +kernel
theorem dX4_deaths_45 : decode cX4_deaths 45 = .ok (.getfield 83, 3) := by decide +kernel
theorem dX4_deaths_48 : decode cX4_deaths 48 = .ok (.iload_n 1, 1) := by decide +kernel
theorem dX4_deaths_49 : decode cX4_deaths 49 = .ok (.iaload, 1) := by decide +kernel
theorem dX4_deaths_50 : decode cX4_deaths 50 = .ok (.isub, 1) := by decide +kernel
theorem dX4_deaths_51 : decode cX4_deaths 51 = .ok (.istore 4, 2) := by decide +kernel
theorem dX4_deaths_53 : decode cX4_deaths 53 = .ok (.iload 4, 2) := by decide +kernel
theorem dX4_deaths_55 : decode cX4_deaths 55 = .ok (.ifCond .le 14, 3) := by decide +kernel
theorem dX4_deaths_58 : decode cX4_deaths 58 = .ok (.aload_n 0, 1) := by decide +kernel
theorem dX4_deaths_59 : decode cX4_deaths 59 = .ok (.getfield 10, 3) := by decide +kernel
theorem dX4_deaths_62 : decode cX4_deaths 62 = .ok (.iload_n 1, 1) := by decide +kernel
theorem dX4_deaths_63 : decode cX4_deaths 63 = .ok (.invokevirtual 133, 3) := by decide +kernel
theorem dX4_deaths_66 : decode cX4_deaths 66 = .ok (.ifCond .eq 6, 3) := by decide +kernel
theorem dX4_deaths_69 : decode cX4_deaths 69 = .ok (.bipush (-9), 2) := by decide +kernel
theorem dX4_deaths_71 : decode cX4_deaths 71 = .ok (.ireturn, 1) := by decide +kernel
theorem dX4_deaths_72 : decode cX4_deaths 72 = .ok (.iload 4, 2) := by decide +kernel
theorem dX4_deaths_74 : decode cX4_deaths 74 = .ok (.aload_n 0, 1) := by decide +kernel
theorem dX4_deaths_75 : decode cX4_deaths 75 = .ok (.getfield 10, 3) := by decide +kernel
theorem dX4_deaths_78 : decode cX4_deaths 78 = .ok (.iload_n 1, 1) := by decide +kernel
theorem dX4_deaths_79 : decode cX4_deaths 79 = .ok (.aload_n 0, 1) := by decide +kernel
theorem dX4_deaths_80 : decode cX4_deaths 80 = .ok (.getfield 10, 3) := by decide +kernel
theorem dX4_deaths_83 : decode cX4_deaths 83 = .ok (.aload_n 0, 1) := by decide +kernel
theorem dX4_deaths_84 : decode cX4_deaths 84 = .ok (.getfield 10, 3) := by decide +kernel
theorem dX4_deaths_87 : decode cX4_deaths 87 = .ok (.invokevirtual 136, 3) := by decide +kernel
theorem dX4_deaths_90 : decode cX4_deaths 90 = .ok (.invokevirtual 139, 3) := by decide +kernel
theorem dX4_deaths_93 : decode cX4_deaths 93 = .ok (.invokevirtual 142, 3) := by decide +kernel
theorem dX4_deaths_96 : decode cX4_deaths 96 = .ok (.if_icmp .le 6, 3) := by decide +kernel
theorem dX4_deaths_99 : decode cX4_deaths 99 = .ok (.bipush (-9), 2) := by decide +kernel
theorem dX4_deaths_101 : decode cX4_deaths 101 = .ok (.ireturn, 1) := by decide +kernel
theorem dX4_deaths_102 : decode cX4_deaths 102 = .ok (.iload_n 3, 1) := by decide +kernel
theorem dX4_deaths_103 : decode cX4_deaths 103 = .ok (.ifCond .ne 8, 3) := by decide +kernel
theorem dX4_deaths_106 : decode cX4_deaths 106 = .ok (.iload 4, 2) := by decide +kernel
theorem dX4_deaths_108 : decode cX4_deaths 108 = .ok (.goto 13, 3) := by decide +kernel
theorem dX4_deaths_111 : decode cX4_deaths 111 = .ok (.aload_n 0, 1) := by decide +kernel
theorem dX4_deaths_112 : decode cX4_deaths 112 = .ok (.getfield 10, 3) := by decide +kernel
theorem dX4_deaths_115 : decode cX4_deaths 115 = .ok (.iload_n 1, 1) := by decide +kernel
theorem dX4_deaths_116 : decode cX4_deaths 116 = .ok (.iload 4, 2) := by decide +kernel
theorem dX4_deaths_118 : decode cX4_deaths 118 = .ok (.invokevirtual 145, 3) := by decide +kernel
theorem dX4_deaths_121 : decode cX4_deaths 121 = .ok (.ireturn, 1) := by decide +kernel
set_option maxRecDepth 20000 in
theorem ggX4_stuck_X3_isAlive : GoodIn wsX4_stuck wsX3_isAlive := goodIn_r _ [6, 7, 8, 41, 42, 43, 44, 45, 46, 47] (by decide +kernel) (by decide +kernel)
set_option maxRecDepth 20000 in
theorem gX4_stuck_X3_isAlive : GoodIn wsX4_stuck (wsV RX4 74 RX3 yX3_isAlive wsX3_isAlive) := goodIn_app (goodIn_of _ (by decide +kernel)) ggX4_stuck_X3_isAlive
set_option maxRecDepth 20000 in
theorem ggX4_stuck_X3_isOutOfReach : GoodIn wsX4_stuck wsX3_isOutOfReach := goodIn_r _ [12, 8, 13, 14, 15, 5, 16, 17, 18, 19, 20, 21, 22, 23, 24, 25, 26, 27, 28, 29, 30, 31, 41, 42, 43, 44, 45, 46, 47] (by decide +kernel) (by decide +kernel)
set_option maxRecDepth 20000 in
theorem gX4_stuck_X3_isOutOfReach : GoodIn wsX4_stuck (wsV RX4 148 RX3 yX3_isOutOfReach wsX3_isOutOfReach) := goodIn_app (goodIn_of _ (by decide +kernel)) ggX4_stuck_X3_isOutOfReach
theorem dX4_stuck_0 : decode cX4_stuck 0 = .ok (.iconst 0, 1) := by decide +kernel
theorem dX4_stuck_1 : decode cX4_stuck 1 = .ok (.istore_n 1, 1) := by decide +kernel
theorem dX4_stuck_2 : decode cX4_stuck 2 = .ok (.iconst 0, 1) := by decide +kernel
theorem dX4_stuck_3 : decode cX4_stuck 3 = .ok (.istore_n 2, 1) := by decide +kernel
theorem dX4_stuck_4 : decode cX4_stuck 4 = .ok (.iload_n 2, 1) := by decide +kernel
theorem dX4_stuck_5 : decode cX4_stuck 5 = .ok (.bipush 8, 2) := by decide +kernel
theorem dX4_stuck_7 : decode cX4_stuck 7 = .ok (.if_icmp .ge 38, 3) := by decide +kernel
theorem dX4_stuck_10 : decode cX4_stuck 10 = .ok (.aload_n 0, 1) := by decide +kernel
theorem dX4_stuck_11 : decode cX4_stuck 11 = .ok (.getfield 10, 3) := by decide +kernel
theorem dX4_stuck_14 : decode cX4_stuck 14 = .ok (.iload_n 2, 1) := by decide +kernel
theorem dX4_stuck_15 : decode cX4_stuck 15 = .ok (.invokevirtual 74, 3) := by decide +kernel
theorem dX4_stuck_18 : decode cX4_stuck 18 = .ok (.ifCond .eq 21, 3) := by decide +kernel
theorem dX4_stuck_21 : decode cX4_stuck 21 = .ok (.aload_n 0, 1) := by decide +kernel
theorem dX4_stuck_22 : decode cX4_stuck 22 = .ok (.getfield 10, 3) := by decide +kernel
theorem dX4_stuck_25 : decode cX4_stuck 25 = .ok (.iload_n 2, 1) := by decide +kernel
theorem dX4_stuck_26 : decode cX4_stuck 26 = .ok (.iconst 0, 1) := by decide +kernel
theorem dX4_stuck_27 : decode cX4_stuck 27 = .ok (.invokevirtual 148, 3) := by decide +kernel
theorem dX4_stuck_30 : decode cX4_stuck 30 = .ok (.ifCond .eq 9, 3) := by decide +kernel
theorem dX4_stuck_33 : decode cX4_stuck 33 = .ok (.iload_n 1, 1) := by decide +kernel
theorem dX4_stuck_34 : decode cX4_stuck 34 = .ok (.iconst 1, 1) := by decide +kernel
theorem dX4_stuck_35 : decode cX4_stuck 35 = .ok (.iload_n 2, 1) := by decide +kernel
theorem dX4_stuck_36 : decode cX4_stuck 36 = .ok (.ishl, 1) := by decide +kernel
theorem dX4_stuck_37 : decode cX4_stuck 37 = .ok (.ior, 1) := by decide +kernel
theorem dX4_stuck_38 : decode cX4_stuck 38 = .ok (.istore_n 1, 1) := by decide +kernel
theorem dX4_stuck_39 : decode cX4_stuck 39 = .ok (.iinc 2 1, 3) := by decide +kernel
theorem dX4_stuck_42 : decode cX4_stuck 42 = .ok (.goto (-38), 3) := by decide +kernel
theorem dX4_stuck_45 : decode cX4_stuck 45 = .ok (.iload_n 1, 1) := by decide +kernel
theorem dX4_stuck_46 : decode cX4_stuck 46 = .ok (.ireturn, 1) := by decide +kernel
set_option maxRecDepth 20000 in
theorem ggX4_safe_X3_isAlive : GoodIn wsX4_safe wsX3_isAlive := goodIn_r _ [6, 7, 8, 47, 48, 49, 50, 51, 52, 53] (by decide +kernel) (by decide +kernel)
set_option maxRecDepth 20000 in
theorem gX4_safe_X3_isAlive : GoodIn wsX4_safe (wsV RX4 74 RX3 yX3_isAlive wsX3_isAlive) := goodIn_app (goodIn_of _ (by decide +kernel)) ggX4_safe_X3_isAlive
set_option maxRecDepth 20000 in
theorem ggX4_safe_X4_refuse : GoodIn wsX4_safe wsX4_refuse := goodIn_r _ [13, 14, 38, 39, 40, 41, 42, 43, 44, 45, 46] (by decide +kernel) (by decide +kernel)
set_option maxRecDepth 20000 in
theorem gX4_safe_X4_refuse : GoodIn wsX4_safe (wsV RX4 43 RX4 yX4_refuse wsX4_refuse) := goodIn_app (goodIn_of _ (by decide +kernel)) ggX4_safe_X4_refuse
set_option maxRecDepth 20000 in
theorem ggX4_safe_X3_isOutOfReach : GoodIn wsX4_safe wsX3_isOutOfReach := goodIn_r _ [18, 8, 19, 20, 21, 5, 22, 23, 24, 25, 26, 27, 28, 29, 30, 31, 32, 33, 34, 35, 36, 37, 47, 48, 49, 50, 51, 52, 53] (by decide +kernel) (by decide +kernel)
set_option maxRecDepth 20000 in
theorem gX4_safe_X3_isOutOfReach : GoodIn wsX4_safe (wsV RX4 148 RX3 yX3_isOutOfReach wsX3_isOutOfReach) := goodIn_app (goodIn_of _ (by decide +kernel)) ggX4_safe_X3_isOutOfReach
theorem dX4_safe_0 : decode cX4_safe 0 = .ok (.aload_n 0, 1) := by decide +kernel
theorem dX4_safe_1 : decode cX4_safe 1 = .ok (.getfield 10, 3) := by decide +kernel
theorem dX4_safe_4 : decode cX4_safe 4 = .ok (.iload_n 1, 1) := by decide +kernel
theorem dX4_safe_5 : decode cX4_safe 5 = .ok (.invokevirtual 74, 3) := by decide +kernel
theorem dX4_safe_8 : decode cX4_safe 8 = .ok (.ifCond .ne 9, 3) := by decide +kernel
theorem dX4_safe_11 : decode cX4_safe 11 = .ok (.aload_n 0, 1) := by decide +kernel
theorem dX4_safe_12 : decode cX4_safe 12 = .ok (.iconst (-1), 1) := by decide +kernel
theorem dX4_safe_13 : decode cX4_safe 13 = .ok (.invokevirtual 43, 3) := by decide +kernel
theorem dX4_safe_16 : decode cX4_safe 16 = .ok (.ireturn, 1) := by decide +kernel
theorem dX4_safe_17 : decode cX4_safe 17 = .ok (.bipush (-9), 2) := by decide +kernel
theorem dX4_safe_19 : decode cX4_safe 19 = .ok (.istore_n 2, 1) := by decide +kernel
theorem dX4_safe_20 : decode cX4_safe 20 = .ok (.iconst 0, 1) := by decide +kernel
theorem dX4_safe_21 : decode cX4_safe 21 = .ok (.istore_n 3, 1) := by decide +kernel
theorem dX4_safe_22 : decode cX4_safe 22 = .ok (.iload_n 3, 1) := by decide +kernel
theorem dX4_safe_23 : decode cX4_safe 23 = .ok (.bipush 99, 2) := by decide +kernel
theorem dX4_safe_25 : decode cX4_safe 25 = .ok (.if_icmp .gt 26, 3) := by decide +kernel
theorem dX4_safe_28 : decode cX4_safe 28 = .ok (.aload_n 0, 1) := by decide +kernel
theorem dX4_safe_29 : decode cX4_safe 29 = .ok (.getfield 10, 3) := by decide +kernel
theorem dX4_safe_32 : decode cX4_safe 32 = .ok (.iload_n 1, 1) := by decide +kernel
theorem dX4_safe_33 : decode cX4_safe 33 = .ok (.iload_n 3, 1) := by decide +kernel
theorem dX4_safe_34 : decode cX4_safe 34 = .ok (.invokevirtual 148, 3) := by decide +kernel
theorem dX4_safe_37 : decode cX4_safe 37 = .ok (.ifCond .eq 6, 3) := by decide +kernel
theorem dX4_safe_40 : decode cX4_safe 40 = .ok (.goto 11, 3) := by decide +kernel
theorem dX4_safe_43 : decode cX4_safe 43 = .ok (.iload_n 3, 1) := by decide +kernel
theorem dX4_safe_44 : decode cX4_safe 44 = .ok (.istore_n 2, 1) := by decide +kernel
theorem dX4_safe_45 : decode cX4_safe 45 = .ok (.iinc 3 1, 3) := by decide +kernel
theorem dX4_safe_48 : decode cX4_safe 48 = .ok (.goto (-26), 3) := by decide +kernel
theorem dX4_safe_51 : decode cX4_safe 51 = .ok (.iload_n 2, 1) := by decide +kernel
theorem dX4_safe_52 : decode cX4_safe 52 = .ok (.ireturn, 1) := by decide +kernel
set_option maxRecDepth 20000 in
theorem ggX4_carried_X3_areAlive : GoodIn wsX4_carried wsX3_areAlive := goodIn_r _ [6, 7, 8, 9, 5, 10, 11, 12, 13, 14, 15, 16, 60, 61, 62, 63, 64, 65, 66] (by decide +kernel) (by decide +kernel)
set_option maxRecDepth 20000 in
theorem gX4_carried_X3_areAlive : GoodIn wsX4_carried (wsV RX4 105 RX3 yX3_areAlive wsX3_areAlive) := goodIn_app (goodIn_of _ (by decide +kernel)) ggX4_carried_X3_areAlive
set_option maxRecDepth 20000 in
theorem ggX4_carried_X4_refuse : GoodIn wsX4_carried wsX4_refuse := goodIn_r _ [21, 22, 51, 52, 53, 54, 55, 56, 57, 58, 59] (by decide +kernel) (by decide +kernel)
set_option maxRecDepth 20000 in
theorem gX4_carried_X4_refuse : GoodIn wsX4_carried (wsV RX4 43 RX4 yX4_refuse wsX4_refuse) := goodIn_app (goodIn_of _ (by decide +kernel)) ggX4_carried_X4_refuse
set_option maxRecDepth 20000 in
theorem ggX4_carried_X3_burden : GoodIn wsX4_carried wsX3_burden := goodIn_r _ [26, 27, 28, 29, 30, 5, 31, 16, 32, 33, 34, 11, 12, 13, 14, 15, 35, 36, 37, 38, 39, 40, 41, 42, 43, 44, 45, 46, 47, 48, 49, 50, 60, 61, 62, 63, 64, 65, 66] (by decide +kernel) (by decide +kernel)
set_option maxRecDepth 20000 in
theorem gX4_carried_X3_burden : GoodIn wsX4_carried (wsV RX4 151 RX3 yX3_burden wsX3_burden) := goodIn_app (goodIn_of _ (by decide +kernel)) ggX4_carried_X3_burden
theorem dX4_carried_0 : decode cX4_carried 0 = .ok (.aload_n 0, 1) := by decide +kernel
theorem dX4_carried_1 : decode cX4_carried 1 = .ok (.getfield 10, 3) := by decide +kernel
theorem dX4_carried_4 : decode cX4_carried 4 = .ok (.iload_n 1, 1) := by decide +kernel
theorem dX4_carried_5 : decode cX4_carried 5 = .ok (.invokevirtual 105, 3) := by decide +kernel
theorem dX4_carried_8 : decode cX4_carried 8 = .ok (.ifCond .ne 9, 3) := by decide +kernel
theorem dX4_carried_11 : decode cX4_carried 11 = .ok (.aload_n 0, 1) := by decide +kernel
theorem dX4_carried_12 : decode cX4_carried 12 = .ok (.iconst (-1), 1) := by decide +kernel
theorem dX4_carried_13 : decode cX4_carried 13 = .ok (.invokevirtual 43, 3) := by decide +kernel
theorem dX4_carried_16 : decode cX4_carried 16 = .ok (.ireturn, 1) := by decide +kernel
theorem dX4_carried_17 : decode cX4_carried 17 = .ok (.aload_n 0, 1) := by decide +kernel
theorem dX4_carried_18 : decode cX4_carried 18 = .ok (.getfield 10, 3) := by decide +kernel
theorem dX4_carried_21 : decode cX4_carried 21 = .ok (.iload_n 1, 1) := by decide +kernel
theorem dX4_carried_22 : decode cX4_carried 22 = .ok (.invokevirtual 151, 3) := by decide +kernel
theorem dX4_carried_25 : decode cX4_carried 25 = .ok (.ireturn, 1) := by decide +kernel
set_option maxRecDepth 20000 in
theorem ggX4_leastCarried_X3_isAlive : GoodIn wsX4_leastCarried wsX3_isAlive := goodIn_r _ [6, 7, 8, 47, 48, 49, 50, 51, 52, 53] (by decide +kernel) (by decide +kernel)
set_option maxRecDepth 20000 in
theorem gX4_leastCarried_X3_isAlive : GoodIn wsX4_leastCarried (wsV RX4 74 RX3 yX3_isAlive wsX3_isAlive) := goodIn_app (goodIn_of _ (by decide +kernel)) ggX4_leastCarried_X3_isAlive
set_option maxRecDepth 20000 in
theorem ggX4_leastCarried_X3_burden : GoodIn wsX4_leastCarried wsX3_burden := goodIn_r _ [12, 13, 14, 15, 16, 5, 17, 8, 18, 19, 20, 21, 3, 4, 6, 7, 22, 23, 24, 25, 26, 27, 28, 29, 30, 31, 32, 33, 34, 35, 36, 37, 47, 48, 49, 50, 51, 52, 53] (by decide +kernel) (by decide +kernel)
set_option maxRecDepth 20000 in
theorem gX4_leastCarried_X3_burden : GoodIn wsX4_leastCarried (wsV RX4 151 RX3 yX3_burden wsX3_burden) := goodIn_app (goodIn_of _ (by decide +kernel)) ggX4_leastCarried_X3_burden
theorem dX4_leastCarried_0 : decode cX4_leastCarried 0 = .ok (.bipush (-9), 2) := by decide +kernel
theorem dX4_leastCarried_2 : decode cX4_leastCarried 2 = .ok (.istore_n 1, 1) := by decide +kernel
theorem dX4_leastCarried_3 : decode cX4_leastCarried 3 = .ok (.iconst 0, 1) := by decide +kernel
theorem dX4_leastCarried_4 : decode cX4_leastCarried 4 = .ok (.istore_n 2, 1) := by decide +kernel
theorem dX4_leastCarried_5 : decode cX4_leastCarried 5 = .ok (.iconst 0, 1) := by decide +kernel
theorem dX4_leastCarried_6 : decode cX4_leastCarried 6 = .ok (.istore_n 3, 1) := by decide +kernel
theorem dX4_leastCarried_7 : decode cX4_leastCarried 7 = .ok (.iload_n 3, 1) := by decide +kernel
theorem dX4_leastCarried_8 : decode cX4_leastCarried 8 = .ok (.bipush 8, 2) := by decide +kernel
theorem dX4_leastCarried_10 : decode cX4_leastCarried 10 = .ok (.if_icmp .ge 52, 3) := by decide +kernel
theorem dX4_leastCarried_13 : decode cX4_leastCarried 13 = .ok (.aload_n 0, 1) := by decide +kernel
theorem dX4_leastCarried_14 : decode cX4_leastCarried 14 = .ok (.getfield 10, 3) := by decide +kernel
theorem dX4_leastCarried_17 : decode cX4_leastCarried 17 = .ok (.iload_n 3, 1) := by decide +kernel
theorem dX4_leastCarried_18 : decode cX4_leastCarried 18 = .ok (.invokevirtual 74, 3) := by decide +kernel
theorem dX4_leastCarried_21 : decode cX4_leastCarried 21 = .ok (.ifCond .ne 6, 3) := by decide +kernel
theorem dX4_leastCarried_24 : decode cX4_leastCarried 24 = .ok (.goto 32, 3) := by decide +kernel
theorem dX4_leastCarried_27 : decode cX4_leastCarried 27 = .ok (.aload_n 0, 1) := by decide +kernel
theorem dX4_leastCarried_28 : decode cX4_leastCarried 28 = .ok (.getfield 10, 3) := by decide +kernel
theorem dX4_leastCarried_31 : decode cX4_leastCarried 31 = .ok (.iconst 1, 1) := by decide +kernel
theorem dX4_leastCarried_32 : decode cX4_leastCarried 32 = .ok (.iload_n 3, 1) := by decide +kernel
theorem dX4_leastCarried_33 : decode cX4_leastCarried 33 = .ok (.ishl, 1) := by decide +kernel
theorem dX4_leastCarried_34 : decode cX4_leastCarried 34 = .ok (.invokevirtual 151, 3) := by decide +kernel
theorem dX4_leastCarried_37 : decode cX4_leastCarried 37 = .ok (.istore 4, 2) := by decide +kernel
theorem dX4_leastCarried_39 : decode cX4_leastCarried 39 = .ok (.iload_n 1, 1) := by decide +kernel
theorem dX4_leastCarried_40 : decode cX4_leastCarried 40 = .ok (.bipush (-9), 2) := by decide +kernel
theorem dX4_leastCarried_42 : decode cX4_leastCarried 42 = .ok (.if_icmp .eq 9, 3) := by decide +kernel
theorem dX4_leastCarried_45 : decode cX4_leastCarried 45 = .ok (.iload 4, 2) := by decide +kernel
theorem dX4_leastCarried_47 : decode cX4_leastCarried 47 = .ok (.iload_n 2, 1) := by decide +kernel
theorem dX4_leastCarried_48 : decode cX4_leastCarried 48 = .ok (.if_icmp .ge 8, 3) := by decide +kernel
theorem dX4_leastCarried_51 : decode cX4_leastCarried 51 = .ok (.iload_n 3, 1) := by decide +kernel
theorem dX4_leastCarried_52 : decode cX4_leastCarried 52 = .ok (.istore_n 1, 1) := by decide +kernel
theorem dX4_leastCarried_53 : decode cX4_leastCarried 53 = .ok (.iload 4, 2) := by decide +kernel
theorem dX4_leastCarried_55 : decode cX4_leastCarried 55 = .ok (.istore_n 2, 1) := by decide +kernel
theorem dX4_leastCarried_56 : decode cX4_leastCarried 56 = .ok (.iinc 3 1, 3) := by decide +kernel
theorem dX4_leastCarried_59 : decode cX4_leastCarried 59 = .ok (.goto (-52), 3) := by decide +kernel
theorem dX4_leastCarried_62 : decode cX4_leastCarried 62 = .ok (.iload_n 1, 1) := by decide +kernel
theorem dX4_leastCarried_63 : decode cX4_leastCarried 63 = .ok (.ireturn, 1) := by decide +kernel
set_option maxRecDepth 20000 in
theorem ggX4_rings_X3_inRings : GoodIn wsX4_rings wsX3_inRings := goodIn_r _ [6, 7, 8, 9, 5, 10, 11, 12, 13, 14, 15, 16, 17, 18, 19, 20, 21, 31, 32, 33, 34, 35, 36, 37] (by decide +kernel) (by decide +kernel)
set_option maxRecDepth 20000 in
theorem gX4_rings_X3_inRings : GoodIn wsX4_rings (wsV RX4 154 RX3 yX3_inRings wsX3_inRings) := goodIn_app (goodIn_of _ (by decide +kernel)) ggX4_rings_X3_inRings
theorem dX4_rings_0 : decode cX4_rings 0 = .ok (.aload_n 0, 1) := by decide +kernel
theorem dX4_rings_1 : decode cX4_rings 1 = .ok (.getfield 10, 3) := by decide +kernel
theorem dX4_rings_4 : decode cX4_rings 4 = .ok (.invokevirtual 154, 3) := by decide +kernel
theorem dX4_rings_7 : decode cX4_rings 7 = .ok (.ireturn, 1) := by decide +kernel
set_option maxRecDepth 20000 in
theorem ggX4_changing_X3_changeRings : GoodIn wsX4_changing wsX3_changeRings := goodIn_r _ [6, 7, 8, 9, 10, 11, 5, 12, 13, 14, 15, 16, 17, 18, 19, 20, 21, 22, 23, 24, 25, 26, 27, 28, 38, 39, 40, 41, 42, 43, 44] (by decide +kernel) (by decide +kernel)
set_option maxRecDepth 20000 in
theorem gX4_changing_X3_changeRings : GoodIn wsX4_changing (wsV RX4 157 RX3 yX3_changeRings wsX3_changeRings) := goodIn_app (goodIn_of _ (by decide +kernel)) ggX4_changing_X3_changeRings
theorem dX4_changing_0 : decode cX4_changing 0 = .ok (.aload_n 0, 1) := by decide +kernel
theorem dX4_changing_1 : decode cX4_changing 1 = .ok (.getfield 10, 3) := by decide +kernel
theorem dX4_changing_4 : decode cX4_changing 4 = .ok (.invokevirtual 157, 3) := by decide +kernel
theorem dX4_changing_7 : decode cX4_changing 7 = .ok (.ireturn, 1) := by decide +kernel
set_option maxRecDepth 20000 in
theorem ggX4_free_X3_living : GoodIn wsX4_free wsX3_living := goodIn_r _ [6, 7, 8, 9, 5, 10, 11, 12, 29, 30, 31, 32, 33, 34, 35] (by decide +kernel) (by decide +kernel)
set_option maxRecDepth 20000 in
theorem gX4_free_X3_living : GoodIn wsX4_free (wsV RX4 136 RX3 yX3_living wsX3_living) := goodIn_app (goodIn_of _ (by decide +kernel)) ggX4_free_X3_living
set_option maxRecDepth 20000 in
theorem ggX4_free_X3_floorsOf : GoodIn wsX4_free wsX3_floorsOf := goodIn_r _ [16, 12, 17, 18, 5, 19, 29, 30, 31, 32, 33, 34, 35] (by decide +kernel) (by decide +kernel)
set_option maxRecDepth 20000 in
theorem gX4_free_X3_floorsOf : GoodIn wsX4_free (wsV RX4 139 RX3 yX3_floorsOf wsX3_floorsOf) := goodIn_app (goodIn_of _ (by decide +kernel)) ggX4_free_X3_floorsOf
theorem dX4_free_0 : decode cX4_free 0 = .ok (.sipush 1023, 3) := by decide +kernel
theorem dX4_free_3 : decode cX4_free 3 = .ok (.aload_n 0, 1) := by decide +kernel
theorem dX4_free_4 : decode cX4_free 4 = .ok (.getfield 10, 3) := by decide +kernel
theorem dX4_free_7 : decode cX4_free 7 = .ok (.aload_n 0, 1) := by decide +kernel
theorem dX4_free_8 : decode cX4_free 8 = .ok (.getfield 10, 3) := by decide +kernel
theorem dX4_free_11 : decode cX4_free 11 = .ok (.invokevirtual 136, 3) := by decide +kernel
theorem dX4_free_14 : decode cX4_free 14 = .ok (.invokevirtual 139, 3) := by decide +kernel
theorem dX4_free_17 : decode cX4_free 17 = .ok (.iconst (-1), 1) := by decide +kernel
theorem dX4_free_18 : decode cX4_free 18 = .ok (.ixor, 1) := by decide +kernel
theorem dX4_free_19 : decode cX4_free 19 = .ok (.iand, 1) := by decide +kernel
theorem dX4_free_20 : decode cX4_free 20 = .ok (.ireturn, 1) := by decide +kernel
set_option maxRecDepth 20000 in
theorem ggX4_ages_X4_isKind : GoodIn wsX4_ages wsX4_isKind := goodIn_r _ [5] (by decide +kernel) (by decide +kernel)
set_option maxRecDepth 20000 in
theorem gX4_ages_X4_isKind : GoodIn wsX4_ages (va_wsS RX4 61 yX4_isKind wsX4_isKind) := goodIn_app (goodIn_of _ (by decide +kernel)) ggX4_ages_X4_isKind
set_option maxRecDepth 20000 in
theorem ggX4_ages_X4_refuse : GoodIn wsX4_ages wsX4_refuse := goodIn_r _ [9, 10, 38, 39, 40, 41, 42, 43, 44, 45, 46] (by decide +kernel) (by decide +kernel)
set_option maxRecDepth 20000 in
theorem gX4_ages_X4_refuse : GoodIn wsX4_ages (wsV RX4 43 RX4 yX4_refuse wsX4_refuse) := goodIn_app (goodIn_of _ (by decide +kernel)) ggX4_ages_X4_refuse
set_option maxRecDepth 20000 in
theorem ggX4_ages_X3_couldComeIn : GoodIn wsX4_ages wsX3_couldComeIn := goodIn_r _ [15, 16, 17, 18, 14, 19, 20, 21, 22, 23, 24, 25, 26, 27, 28, 29, 30, 31, 32, 33, 34, 35, 36, 37, 47, 48, 49, 50, 51, 52, 53] (by decide +kernel) (by decide +kernel)
set_option maxRecDepth 20000 in
theorem gX4_ages_X3_couldComeIn : GoodIn wsX4_ages (wsV RX4 66 RX3 yX3_couldComeIn wsX3_couldComeIn) := goodIn_app (goodIn_of _ (by decide +kernel)) ggX4_ages_X3_couldComeIn
theorem dX4_ages_0 : decode cX4_ages 0 = .ok (.iload_n 1, 1) := by decide +kernel
theorem dX4_ages_1 : decode cX4_ages 1 = .ok (.invokestatic 61, 3) := by decide +kernel
theorem dX4_ages_4 : decode cX4_ages 4 = .ok (.ifCond .eq 12, 3) := by decide +kernel
theorem dX4_ages_7 : decode cX4_ages 7 = .ok (.iload_n 2, 1) := by decide +kernel
theorem dX4_ages_8 : decode cX4_ages 8 = .ok (.ifCond .eq 15, 3) := by decide +kernel
theorem dX4_ages_11 : decode cX4_ages 11 = .ok (.iload_n 2, 1) := by decide +kernel
theorem dX4_ages_12 : decode cX4_ages 12 = .ok (.iconst 1, 1) := by decide +kernel
theorem dX4_ages_13 : decode cX4_ages 13 = .ok (.if_icmp .eq 10, 3) := by decide +kernel
theorem dX4_ages_16 : decode cX4_ages 16 = .ok (.aload_n 0, 1) := by decide +kernel
theorem dX4_ages_17 : decode cX4_ages 17 = .ok (.bipush (-2), 2) := by decide +kernel
theorem dX4_ages_19 : decode cX4_ages 19 = .ok (.invokevirtual 43, 3) := by decide +kernel
theorem dX4_ages_22 : decode cX4_ages 22 = .ok (.ireturn, 1) := by decide +kernel
theorem dX4_ages_23 : decode cX4_ages 23 = .ok (.iconst 0, 1) := by decide +kernel
theorem dX4_ages_24 : decode cX4_ages 24 = .ok (.istore_n 3, 1) := by decide +kernel
theorem dX4_ages_25 : decode cX4_ages 25 = .ok (.bipush (-9), 2) := by decide +kernel
theorem dX4_ages_27 : decode cX4_ages 27 = .ok (.istore 4, 2) := by decide +kernel
theorem dX4_ages_29 : decode cX4_ages 29 = .ok (.iconst 0, 1) := by decide +kernel
theorem dX4_ages_30 : decode cX4_ages 30 = .ok (.istore 5, 2) := by decide +kernel
theorem dX4_ages_32 : decode cX4_ages 32 = .ok (.iload 5, 2) := by decide +kernel
theorem dX4_ages_34 : decode cX4_ages 34 = .ok (.bipush 99, 2) := by decide +kernel
theorem dX4_ages_36 : decode cX4_ages 36 = .ok (.if_icmp .gt 36, 3) := by decide +kernel
theorem dX4_ages_39 : decode cX4_ages 39 = .ok (.aload_n 0, 1) := by decide +kernel
theorem dX4_ages_40 : decode cX4_ages 40 = .ok (.getfield 10, 3) := by decide +kernel
theorem dX4_ages_43 : decode cX4_ages 43 = .ok (.iload_n 1, 1) := by decide +kernel
theorem dX4_ages_44 : decode cX4_ages 44 = .ok (.iload 5, 2) := by decide +kernel
theorem dX4_ages_46 : decode cX4_ages 46 = .ok (.invokevirtual 66, 3) := by decide +kernel
theorem dX4_ages_49 : decode cX4_ages 49 = .ok (.ifCond .ne 6, 3) := by decide +kernel
theorem dX4_ages_52 : decode cX4_ages 52 = .ok (.goto 14, 3) := by decide +kernel
theorem dX4_ages_55 : decode cX4_ages 55 = .ok (.iload_n 3, 1) := by decide +kernel
theorem dX4_ages_56 : decode cX4_ages 56 = .ok (.ifCond .ne 7, 3) := by decide +kernel
theorem dX4_ages_59 : decode cX4_ages 59 = .ok (.iload 5, 2) := by decide +kernel
theorem dX4_ages_61 : decode cX4_ages 61 = .ok (.istore 4, 2) := by decide +kernel
theorem dX4_ages_63 : decode cX4_ages 63 = .ok (.iinc 3 1, 3) := by decide +kernel
theorem dX4_ages_66 : decode cX4_ages 66 = .ok (.iinc 5 1, 3) := by decide +kernel
theorem dX4_ages_69 : decode cX4_ages 69 = .ok (.goto (-37), 3) := by decide +kernel
theorem dX4_ages_72 : decode cX4_ages 72 = .ok (.iload_n 2, 1) := by decide +kernel
theorem dX4_ages_73 : decode cX4_ages 73 = .ok (.ifCond .ne 7, 3) := by decide +kernel
theorem dX4_ages_76 : decode cX4_ages 76 = .ok (.iload_n 3, 1) := by decide +kernel
theorem dX4_ages_77 : decode cX4_ages 77 = .ok (.goto 5, 3) := by decide +kernel
theorem dX4_ages_80 : decode cX4_ages 80 = .ok (.iload 4, 2) := by decide +kernel
theorem dX4_ages_82 : decode cX4_ages 82 = .ok (.ireturn, 1) := by decide +kernel
set_option maxRecDepth 20000 in
theorem ggX4_row_X4_refuse : GoodIn wsX4_row wsX4_refuse := goodIn_r _ [7, 8, 9, 10, 11, 12, 13, 14, 15, 16, 17] (by decide +kernel) (by decide +kernel)
set_option maxRecDepth 20000 in
theorem gX4_row_X4_refuse : GoodIn wsX4_row (wsV RX4 43 RX4 yX4_refuse wsX4_refuse) := goodIn_app (goodIn_of _ (by decide +kernel)) ggX4_row_X4_refuse
theorem dX4_row_0 : decode cX4_row 0 = .ok (.iload_n 1, 1) := by decide +kernel
theorem dX4_row_1 : decode cX4_row 1 = .ok (.ifCond .ge 10, 3) := by decide +kernel
theorem dX4_row_4 : decode cX4_row 4 = .ok (.aload_n 0, 1) := by decide +kernel
theorem dX4_row_5 : decode cX4_row 5 = .ok (.bipush (-4), 2) := by decide +kernel
theorem dX4_row_7 : decode cX4_row 7 = .ok (.invokevirtual 43, 3) := by decide +kernel
theorem dX4_row_10 : decode cX4_row 10 = .ok (.ireturn, 1) := by decide +kernel
theorem dX4_row_11 : decode cX4_row 11 = .ok (.iload_n 1, 1) := by decide +kernel
theorem dX4_row_12 : decode cX4_row 12 = .ok (.bipush 10, 2) := by decide +kernel
theorem dX4_row_14 : decode cX4_row 14 = .ok (.if_icmp .gt 12, 3) := by decide +kernel
theorem dX4_row_17 : decode cX4_row 17 = .ok (.aload_n 0, 1) := by decide +kernel
theorem dX4_row_18 : decode cX4_row 18 = .ok (.getfield 160, 3) := by decide +kernel
theorem dX4_row_21 : decode cX4_row 21 = .ok (.bipush 8, 2) := by decide +kernel
theorem dX4_row_23 : decode cX4_row 23 = .ok (.if_icmp .lt 10, 3) := by decide +kernel
theorem dX4_row_26 : decode cX4_row 26 = .ok (.aload_n 0, 1) := by decide +kernel
theorem dX4_row_27 : decode cX4_row 27 = .ok (.bipush (-6), 2) := by decide +kernel
theorem dX4_row_29 : decode cX4_row 29 = .ok (.invokevirtual 43, 3) := by decide +kernel
theorem dX4_row_32 : decode cX4_row 32 = .ok (.ireturn, 1) := by decide +kernel
theorem dX4_row_33 : decode cX4_row 33 = .ok (.aload_n 0, 1) := by decide +kernel
theorem dX4_row_34 : decode cX4_row 34 = .ok (.getfield 36, 3) := by decide +kernel
theorem dX4_row_37 : decode cX4_row 37 = .ok (.aload_n 0, 1) := by decide +kernel
theorem dX4_row_38 : decode cX4_row 38 = .ok (.getfield 160, 3) := by decide +kernel
theorem dX4_row_41 : decode cX4_row 41 = .ok (.iload_n 1, 1) := by decide +kernel
theorem dX4_row_42 : decode cX4_row 42 = .ok (.iastore, 1) := by decide +kernel
theorem dX4_row_43 : decode cX4_row 43 = .ok (.aload_n 0, 1) := by decide +kernel
theorem dX4_row_44 : decode cX4_row 44 = .ok (.dup, 1) := by decide +kernel
theorem dX4_row_45 : decode cX4_row 45 = .ok (.getfield 160, 3) := by decide +kernel
theorem dX4_row_48 : decode cX4_row 48 = .ok (.iconst 1, 1) := by decide +kernel
theorem dX4_row_49 : decode cX4_row 49 = .ok (.iadd, 1) := by decide +kernel
theorem dX4_row_50 : decode cX4_row 50 = .ok (.putfield 160, 3) := by decide +kernel
theorem dX4_row_53 : decode cX4_row 53 = .ok (.aload_n 0, 1) := by decide +kernel
theorem dX4_row_54 : decode cX4_row 54 = .ok (.getfield 160, 3) := by decide +kernel
theorem dX4_row_57 : decode cX4_row 57 = .ok (.ireturn, 1) := by decide +kernel
set_option maxRecDepth 20000 in
theorem ggX4_fitting_X4_refuse : GoodIn wsX4_fitting wsX4_refuse := goodIn_r _ [7, 8, 57, 58, 59, 60, 61, 62, 63, 64, 65] (by decide +kernel) (by decide +kernel)
set_option maxRecDepth 20000 in
theorem gX4_fitting_X4_refuse : GoodIn wsX4_fitting (wsV RX4 43 RX4 yX4_refuse wsX4_refuse) := goodIn_app (goodIn_of _ (by decide +kernel)) ggX4_fitting_X4_refuse
set_option maxRecDepth 20000 in
theorem ggX4_fitting_X3_living : GoodIn wsX4_fitting wsX3_living := goodIn_r _ [13, 14, 15, 16, 12, 17, 18, 19, 66, 67, 68, 69, 70, 71, 72] (by decide +kernel) (by decide +kernel)
set_option maxRecDepth 20000 in
theorem gX4_fitting_X3_living : GoodIn wsX4_fitting (wsV RX4 136 RX3 yX3_living wsX3_living) := goodIn_app (goodIn_of _ (by decide +kernel)) ggX4_fitting_X3_living
set_option maxRecDepth 20000 in
theorem ggX4_fitting_J6_bitCount_0f7a4 : GoodIn wsX4_fitting wsJ6_bitCount_0f7a4 := goodIn_r _ [23, 24, 25, 26] (by decide +kernel) (by decide +kernel)
set_option maxRecDepth 20000 in
theorem gX4_fitting_J6_bitCount_0f7a4 : GoodIn wsX4_fitting (va_wsS RX4 163 yJ6_bitCount_0f7a4 wsJ6_bitCount_0f7a4) := goodIn_app (goodIn_of _ (by decide +kernel)) ggX4_fitting_J6_bitCount_0f7a4
set_option maxRecDepth 20000 in
theorem ggX4_fitting_X3_areAlive : GoodIn wsX4_fitting wsX3_areAlive := goodIn_r _ [30, 31, 10, 11, 12, 13, 14, 15, 16, 17, 18, 19, 66, 67, 68, 69, 70, 71, 72] (by decide +kernel) (by decide +kernel)
set_option maxRecDepth 20000 in
theorem gX4_fitting_X3_areAlive : GoodIn wsX4_fitting (wsV RX4 105 RX3 yX3_areAlive wsX3_areAlive) := goodIn_app (goodIn_of _ (by decide +kernel)) ggX4_fitting_X3_areAlive
set_option maxRecDepth 20000 in
theorem ggX4_fitting_X4_fitsTheRow : GoodIn wsX4_fitting wsX4_fitsTheRow := goodIn_r _ [35, 2, 1, 36, 37, 38, 39, 40, 12, 41, 19, 42, 43, 44, 45, 15, 16, 17, 18, 46, 47, 48, 49, 50, 51, 52, 53, 54, 55, 56, 21, 22, 23, 24, 25, 26, 57, 58, 59, 60, 61, 62, 63, 64, 65, 66, 67, 68, 69, 70, 71, 72] (by decide +kernel) (by decide +kernel)
set_option maxRecDepth 20000 in
theorem gX4_fitting_X4_fitsTheRow : GoodIn wsX4_fitting (wsV RX4 168 RX4 yX4_fitsTheRow wsX4_fitsTheRow) := goodIn_app (goodIn_of _ (by decide +kernel)) ggX4_fitting_X4_fitsTheRow
theorem dX4_fitting_0 : decode cX4_fitting 0 = .ok (.iload_n 1, 1) := by decide +kernel
theorem dX4_fitting_1 : decode cX4_fitting 1 = .ok (.ifCond .eq 15, 3) := by decide +kernel
theorem dX4_fitting_4 : decode cX4_fitting 4 = .ok (.iload_n 1, 1) := by decide +kernel
theorem dX4_fitting_5 : decode cX4_fitting 5 = .ok (.iconst 1, 1) := by decide +kernel
theorem dX4_fitting_6 : decode cX4_fitting 6 = .ok (.if_icmp .eq 10, 3) := by decide +kernel
theorem dX4_fitting_9 : decode cX4_fitting 9 = .ok (.aload_n 0, 1) := by decide +kernel
theorem dX4_fitting_10 : decode cX4_fitting 10 = .ok (.bipush (-2), 2) := by decide +kernel
theorem dX4_fitting_12 : decode cX4_fitting 12 = .ok (.invokevirtual 43, 3) := by decide +kernel
theorem dX4_fitting_15 : decode cX4_fitting 15 = .ok (.ireturn, 1) := by decide +kernel
theorem dX4_fitting_16 : decode cX4_fitting 16 = .ok (.aload_n 0, 1) := by decide +kernel
theorem dX4_fitting_17 : decode cX4_fitting 17 = .ok (.getfield 160, 3) := by decide +kernel
theorem dX4_fitting_20 : decode cX4_fitting 20 = .ok (.aload_n 0, 1) := by decide +kernel
theorem dX4_fitting_21 : decode cX4_fitting 21 = .ok (.getfield 10, 3) := by decide +kernel
theorem dX4_fitting_24 : decode cX4_fitting 24 = .ok (.invokevirtual 136, 3) := by decide +kernel
end
section
theorem dX4_fitting_27 : decode cX4_fitting 27 = .ok (.invokestatic 163, 3) := by decide +kernel
theorem dX4_fitting_30 : decode cX4_fitting 30 = .ok (.if_icmp .eq 10, 3) := by decide +kernel
theorem dX4_fitting_33 : decode cX4_fitting 33 = .ok (.aload_n 0, 1) := by decide +kernel
theorem dX4_fitting_34 : decode cX4_fitting 34 = .ok (.bipush (-3), 2) := by decide +kernel
theorem dX4_fitting_36 : decode cX4_fitting 36 = .ok (.invokevirtual 43, 3) := by decide +kernel
theorem dX4_fitting_39 : decode cX4_fitting 39 = .ok (.ireturn, 1) := by decide +kernel
theorem dX4_fitting_40 : decode cX4_fitting 40 = .ok (.iconst 0, 1) := by decide +kernel
theorem dX4_fitting_41 : decode cX4_fitting 41 = .ok (.istore_n 2, 1) := by decide +kernel
theorem dX4_fitting_42 : decode cX4_fitting 42 = .ok (.bipush (-9), 2) := by decide +kernel
theorem dX4_fitting_44 : decode cX4_fitting 44 = .ok (.istore_n 3, 1) := by decide +kernel
theorem dX4_fitting_45 : decode cX4_fitting 45 = .ok (.iconst 0, 1) := by decide +kernel
theorem dX4_fitting_46 : decode cX4_fitting 46 = .ok (.istore 4, 2) := by decide +kernel
theorem dX4_fitting_48 : decode cX4_fitting 48 = .ok (.iload 4, 2) := by decide +kernel
theorem dX4_fitting_50 : decode cX4_fitting 50 = .ok (.sipush 256, 3) := by decide +kernel
theorem dX4_fitting_53 : decode cX4_fitting 53 = .ok (.if_icmp .ge 43, 3) := by decide +kernel
theorem dX4_fitting_56 : decode cX4_fitting 56 = .ok (.aload_n 0, 1) := by decide +kernel
theorem dX4_fitting_57 : decode cX4_fitting 57 = .ok (.getfield 10, 3) := by decide +kernel
theorem dX4_fitting_60 : decode cX4_fitting 60 = .ok (.iload 4, 2) := by decide +kernel
theorem dX4_fitting_62 : decode cX4_fitting 62 = .ok (.invokevirtual 105, 3) := by decide +kernel
theorem dX4_fitting_65 : decode cX4_fitting 65 = .ok (.ifCond .eq 25, 3) := by decide +kernel
theorem dX4_fitting_68 : decode cX4_fitting 68 = .ok (.aload_n 0, 1) := by decide +kernel
theorem dX4_fitting_69 : decode cX4_fitting 69 = .ok (.iload 4, 2) := by decide +kernel
theorem dX4_fitting_71 : decode cX4_fitting 71 = .ok (.invokevirtual 168, 3) := by decide +kernel
theorem dX4_fitting_74 : decode cX4_fitting 74 = .ok (.ifCond .ne 6, 3) := by decide +kernel
theorem dX4_fitting_77 : decode cX4_fitting 77 = .ok (.goto 13, 3) := by decide +kernel
theorem dX4_fitting_80 : decode cX4_fitting 80 = .ok (.iload_n 2, 1) := by decide +kernel
theorem dX4_fitting_81 : decode cX4_fitting 81 = .ok (.ifCond .ne 6, 3) := by decide +kernel
theorem dX4_fitting_84 : decode cX4_fitting 84 = .ok (.iload 4, 2) := by decide +kernel
theorem dX4_fitting_86 : decode cX4_fitting 86 = .ok (.istore_n 3, 1) := by decide +kernel
theorem dX4_fitting_87 : decode cX4_fitting 87 = .ok (.iinc 2 1, 3) := by decide +kernel
theorem dX4_fitting_90 : decode cX4_fitting 90 = .ok (.iinc 4 1, 3) := by decide +kernel
theorem dX4_fitting_93 : decode cX4_fitting 93 = .ok (.goto (-45), 3) := by decide +kernel
theorem dX4_fitting_96 : decode cX4_fitting 96 = .ok (.iload_n 1, 1) := by decide +kernel
theorem dX4_fitting_97 : decode cX4_fitting 97 = .ok (.ifCond .ne 7, 3) := by decide +kernel
theorem dX4_fitting_100 : decode cX4_fitting 100 = .ok (.iload_n 2, 1) := by decide +kernel
theorem dX4_fitting_101 : decode cX4_fitting 101 = .ok (.goto 4, 3) := by decide +kernel
theorem dX4_fitting_104 : decode cX4_fitting 104 = .ok (.iload_n 3, 1) := by decide +kernel
theorem dX4_fitting_105 : decode cX4_fitting 105 = .ok (.ireturn, 1) := by decide +kernel
set_option maxRecDepth 20000 in
theorem ggX4_judge_X4_firstNotSo : GoodIn wsX4_judge wsX4_firstNotSo := goodIn_r _ [6, 7, 1, 8, 9, 10, 11, 12, 13, 14, 15, 16, 17, 18, 19, 20, 21, 22, 23, 24, 25, 26, 27, 28, 29, 30, 31, 32] (by decide +kernel) (by decide +kernel)
set_option maxRecDepth 20000 in
theorem gX4_judge_X4_firstNotSo : GoodIn wsX4_judge (wsV RX4 171 RX4 yX4_firstNotSo wsX4_firstNotSo) := goodIn_app (goodIn_of _ (by decide +kernel)) ggX4_judge_X4_firstNotSo
theorem dX4_judge_0 : decode cX4_judge 0 = .ok (.aload_n 0, 1) := by decide +kernel
theorem dX4_judge_1 : decode cX4_judge 1 = .ok (.invokevirtual 171, 3) := by decide +kernel
theorem dX4_judge_4 : decode cX4_judge 4 = .ok (.istore_n 1, 1) := by decide +kernel
theorem dX4_judge_5 : decode cX4_judge 5 = .ok (.aload_n 0, 1) := by decide +kernel
theorem dX4_judge_6 : decode cX4_judge 6 = .ok (.iconst 0, 1) := by decide +kernel
theorem dX4_judge_7 : decode cX4_judge 7 = .ok (.putfield 160, 3) := by decide +kernel
theorem dX4_judge_10 : decode cX4_judge 10 = .ok (.iload_n 1, 1) := by decide +kernel
theorem dX4_judge_11 : decode cX4_judge 11 = .ok (.ireturn, 1) := by decide +kernel
set_option maxRecDepth 20000 in
theorem ggX4_lots_X4_refuse : GoodIn wsX4_lots wsX4_refuse := goodIn_r _ [6, 7, 57, 58, 59, 60, 61, 62, 63, 64, 65] (by decide +kernel) (by decide +kernel)
set_option maxRecDepth 20000 in
theorem gX4_lots_X4_refuse : GoodIn wsX4_lots (wsV RX4 43 RX4 yX4_refuse wsX4_refuse) := goodIn_app (goodIn_of _ (by decide +kernel)) ggX4_lots_X4_refuse
set_option maxRecDepth 20000 in
theorem ggX4_lots_X3_livingByLot : GoodIn wsX4_lots wsX3_livingByLot := goodIn_r _ [12, 13, 14, 15, 16, 17, 18, 11, 19, 20, 21, 22, 23, 24, 25, 26, 27, 28, 29, 30, 31, 32, 33, 34, 35, 36, 37, 38, 39, 40, 41, 42, 43, 44, 45, 46, 47, 48, 49, 50, 51, 52, 53, 54, 55, 56, 66, 67, 68, 69, 70, 71, 72] (by decide +kernel) (by decide +kernel)
set_option maxRecDepth 20000 in
theorem gX4_lots_X3_livingByLot : GoodIn wsX4_lots (wsV RX4 174 RX3 yX3_livingByLot wsX3_livingByLot) := goodIn_app (goodIn_of _ (by decide +kernel)) ggX4_lots_X3_livingByLot
theorem dX4_lots_0 : decode cX4_lots 0 = .ok (.iload_n 1, 1) := by decide +kernel
theorem dX4_lots_1 : decode cX4_lots 1 = .ok (.iconst 1, 1) := by decide +kernel
theorem dX4_lots_2 : decode cX4_lots 2 = .ok (.if_icmp .ge 10, 3) := by decide +kernel
theorem dX4_lots_5 : decode cX4_lots 5 = .ok (.aload_n 0, 1) := by decide +kernel
theorem dX4_lots_6 : decode cX4_lots 6 = .ok (.bipush (-4), 2) := by decide +kernel
theorem dX4_lots_8 : decode cX4_lots 8 = .ok (.invokevirtual 43, 3) := by decide +kernel
theorem dX4_lots_11 : decode cX4_lots 11 = .ok (.ireturn, 1) := by decide +kernel
theorem dX4_lots_12 : decode cX4_lots 12 = .ok (.iload_n 1, 1) := by decide +kernel
theorem dX4_lots_13 : decode cX4_lots 13 = .ok (.bipush 40, 2) := by decide +kernel
theorem dX4_lots_15 : decode cX4_lots 15 = .ok (.if_icmp .le 10, 3) := by decide +kernel
theorem dX4_lots_18 : decode cX4_lots 18 = .ok (.aload_n 0, 1) := by decide +kernel
theorem dX4_lots_19 : decode cX4_lots 19 = .ok (.bipush (-6), 2) := by decide +kernel
theorem dX4_lots_21 : decode cX4_lots 21 = .ok (.invokevirtual 43, 3) := by decide +kernel
theorem dX4_lots_24 : decode cX4_lots 24 = .ok (.ireturn, 1) := by decide +kernel
theorem dX4_lots_25 : decode cX4_lots 25 = .ok (.aload_n 0, 1) := by decide +kernel
theorem dX4_lots_26 : decode cX4_lots 26 = .ok (.getfield 10, 3) := by decide +kernel
theorem dX4_lots_29 : decode cX4_lots 29 = .ok (.iload_n 1, 1) := by decide +kernel
theorem dX4_lots_30 : decode cX4_lots 30 = .ok (.iload_n 2, 1) := by decide +kernel
theorem dX4_lots_31 : decode cX4_lots 31 = .ok (.invokevirtual 174, 3) := by decide +kernel
theorem dX4_lots_34 : decode cX4_lots 34 = .ok (.ireturn, 1) := by decide +kernel
set_option maxRecDepth 20000 in
theorem ggX4_image_X3_becomeLike : GoodIn wsX4_image wsX3_becomeLike := goodIn_r _ [9, 10, 11, 12, 13, 14, 15, 16, 26, 27, 28, 29, 30, 31, 32] (by decide +kernel) (by decide +kernel)
set_option maxRecDepth 20000 in
theorem gX4_image_X3_becomeLike : GoodIn wsX4_image (wsV RX4 177 RX3 yX3_becomeLike wsX3_becomeLike) := goodIn_app (goodIn_of _ (by decide +kernel)) ggX4_image_X3_becomeLike
theorem dX4_image_0 : decode cX4_image 0 = .ok (.aload_n 0, 1) := by decide +kernel
theorem dX4_image_1 : decode cX4_image 1 = .ok (.getfield 19, 3) := by decide +kernel
theorem dX4_image_4 : decode cX4_image 4 = .ok (.aload_n 0, 1) := by decide +kernel
theorem dX4_image_5 : decode cX4_image 5 = .ok (.getfield 10, 3) := by decide +kernel
theorem dX4_image_8 : decode cX4_image 8 = .ok (.invokevirtual 177, 3) := by decide +kernel
theorem dX4_image_11 : decode cX4_image 11 = .ok (.aload_n 0, 1) := by decide +kernel
theorem dX4_image_12 : decode cX4_image 12 = .ok (.iconst 1, 1) := by decide +kernel
theorem dX4_image_13 : decode cX4_image 13 = .ok (.putfield 181, 3) := by decide +kernel
theorem dX4_image_16 : decode cX4_image 16 = .ok (.aload_n 0, 1) := by decide +kernel
theorem dX4_image_17 : decode cX4_image 17 = .ok (.getfield 19, 3) := by decide +kernel
theorem dX4_image_20 : decode cX4_image 20 = .ok (.getfield 108, 3) := by decide +kernel
theorem dX4_image_23 : decode cX4_image 23 = .ok (.ireturn, 1) := by decide +kernel
set_option maxRecDepth 20000 in
theorem ggX4_back_X4_refuse : GoodIn wsX4_back wsX4_refuse := goodIn_r _ [9, 10, 23, 24, 25, 26, 27, 28, 29, 30, 31] (by decide +kernel) (by decide +kernel)
set_option maxRecDepth 20000 in
theorem gX4_back_X4_refuse : GoodIn wsX4_back (wsV RX4 43 RX4 yX4_refuse wsX4_refuse) := goodIn_app (goodIn_of _ (by decide +kernel)) ggX4_back_X4_refuse
set_option maxRecDepth 20000 in
theorem ggX4_back_X3_becomeLike : GoodIn wsX4_back wsX3_becomeLike := goodIn_r _ [15, 16, 17, 18, 19, 20, 21, 22, 32, 33, 34, 35, 36, 37, 38] (by decide +kernel) (by decide +kernel)
set_option maxRecDepth 20000 in
theorem gX4_back_X3_becomeLike : GoodIn wsX4_back (wsV RX4 177 RX3 yX3_becomeLike wsX3_becomeLike) := goodIn_app (goodIn_of _ (by decide +kernel)) ggX4_back_X3_becomeLike
theorem dX4_back_0 : decode cX4_back 0 = .ok (.aload_n 0, 1) := by decide +kernel
theorem dX4_back_1 : decode cX4_back 1 = .ok (.getfield 181, 3) := by decide +kernel
theorem dX4_back_4 : decode cX4_back 4 = .ok (.ifCond .ne 10, 3) := by decide +kernel
theorem dX4_back_7 : decode cX4_back 7 = .ok (.aload_n 0, 1) := by decide +kernel
theorem dX4_back_8 : decode cX4_back 8 = .ok (.bipush (-3), 2) := by decide +kernel
theorem dX4_back_10 : decode cX4_back 10 = .ok (.invokevirtual 43, 3) := by decide +kernel
theorem dX4_back_13 : decode cX4_back 13 = .ok (.ireturn, 1) := by decide +kernel
theorem dX4_back_14 : decode cX4_back 14 = .ok (.aload_n 0, 1) := by decide +kernel
theorem dX4_back_15 : decode cX4_back 15 = .ok (.getfield 10, 3) := by decide +kernel
theorem dX4_back_18 : decode cX4_back 18 = .ok (.aload_n 0, 1) := by decide +kernel
theorem dX4_back_19 : decode cX4_back 19 = .ok (.getfield 19, 3) := by decide +kernel
theorem dX4_back_22 : decode cX4_back 22 = .ok (.invokevirtual 177, 3) := by decide +kernel
theorem dX4_back_25 : decode cX4_back 25 = .ok (.aload_n 0, 1) := by decide +kernel
theorem dX4_back_26 : decode cX4_back 26 = .ok (.getfield 10, 3) := by decide +kernel
theorem dX4_back_29 : decode cX4_back 29 = .ok (.getfield 108, 3) := by decide +kernel
theorem dX4_back_32 : decode cX4_back 32 = .ok (.ireturn, 1) := by decide +kernel
set_option maxRecDepth 20000 in
theorem ggX4_count_X3_living : GoodIn wsX4_count wsX3_living := goodIn_r _ [14, 15, 16, 17, 13, 18, 19, 20, 41, 42, 43, 44, 45, 46, 47] (by decide +kernel) (by decide +kernel)
set_option maxRecDepth 20000 in
theorem gX4_count_X3_living : GoodIn wsX4_count (wsV RX4 136 RX3 yX3_living wsX3_living) := goodIn_app (goodIn_of _ (by decide +kernel)) ggX4_count_X3_living
set_option maxRecDepth 20000 in
theorem ggX4_count_J6_bitCount_0f7a4 : GoodIn wsX4_count wsJ6_bitCount_0f7a4 := goodIn_r _ [24, 25, 26, 27] (by decide +kernel) (by decide +kernel)
set_option maxRecDepth 20000 in
theorem gX4_count_J6_bitCount_0f7a4 : GoodIn wsX4_count (va_wsS RX4 163 yJ6_bitCount_0f7a4 wsJ6_bitCount_0f7a4) := goodIn_app (goodIn_of _ (by decide +kernel)) ggX4_count_J6_bitCount_0f7a4
set_option maxRecDepth 20000 in
theorem ggX4_count_X3_sumOfLiving : GoodIn wsX4_count wsX3_sumOfLiving := goodIn_r _ [31, 15, 16, 17, 13, 18, 19, 20, 41, 42, 43, 44, 45, 46, 47] (by decide +kernel) (by decide +kernel)
set_option maxRecDepth 20000 in
theorem gX4_count_X3_sumOfLiving : GoodIn wsX4_count (wsV RX4 188 RX3 yX3_sumOfLiving wsX3_sumOfLiving) := goodIn_app (goodIn_of _ (by decide +kernel)) ggX4_count_X3_sumOfLiving
theorem dX4_count_0 : decode cX4_count 0 = .ok (.iload_n 1, 1) := by decide +kernel
theorem dX4_count_1 : decode cX4_count 1 = .ok (.tableswitch 113 0 6 #[43, 54, 62, 70, 85, 100, 105], 43) := by decide +kernel
theorem dX4_count_44 : decode cX4_count 44 = .ok (.aload_n 0, 1) := by decide +kernel
theorem dX4_count_45 : decode cX4_count 45 = .ok (.getfield 10, 3) := by decide +kernel
theorem dX4_count_48 : decode cX4_count 48 = .ok (.invokevirtual 136, 3) := by decide +kernel
theorem dX4_count_51 : decode cX4_count 51 = .ok (.invokestatic 163, 3) := by decide +kernel
theorem dX4_count_54 : decode cX4_count 54 = .ok (.ireturn, 1) := by decide +kernel
theorem dX4_count_55 : decode cX4_count 55 = .ok (.aload_n 0, 1) := by decide +kernel
theorem dX4_count_56 : decode cX4_count 56 = .ok (.getfield 10, 3) := by decide +kernel
theorem dX4_count_59 : decode cX4_count 59 = .ok (.getfield 185, 3) := by decide +kernel
theorem dX4_count_62 : decode cX4_count 62 = .ok (.ireturn, 1) := by decide +kernel
theorem dX4_count_63 : decode cX4_count 63 = .ok (.aload_n 0, 1) := by decide +kernel
theorem dX4_count_64 : decode cX4_count 64 = .ok (.getfield 10, 3) := by decide +kernel
theorem dX4_count_67 : decode cX4_count 67 = .ok (.getfield 108, 3) := by decide +kernel
theorem dX4_count_70 : decode cX4_count 70 = .ok (.ireturn, 1) := by decide +kernel
theorem dX4_count_71 : decode cX4_count 71 = .ok (.aload_n 0, 1) := by decide +kernel
theorem dX4_count_72 : decode cX4_count 72 = .ok (.getfield 10, 3) := by decide +kernel
theorem dX4_count_75 : decode cX4_count 75 = .ok (.aload_n 0, 1) := by decide +kernel
theorem dX4_count_76 : decode cX4_count 76 = .ok (.getfield 10, 3) := by decide +kernel
theorem dX4_count_79 : decode cX4_count 79 = .ok (.getfield 86, 3) := by decide +kernel
theorem dX4_count_82 : decode cX4_count 82 = .ok (.invokevirtual 188, 3) := by decide +kernel
theorem dX4_count_85 : decode cX4_count 85 = .ok (.ireturn, 1) := by decide +kernel
theorem dX4_count_86 : decode cX4_count 86 = .ok (.aload_n 0, 1) := by decide +kernel
theorem dX4_count_87 : decode cX4_count 87 = .ok (.getfield 10, 3) := by decide +kernel
theorem dX4_count_90 : decode cX4_count 90 = .ok (.aload_n 0, 1) := by decide +kernel
theorem dX4_count_91 : decode cX4_count 91 = .ok (.getfield 10, 3) := by decide +kernel
theorem dX4_count_94 : decode cX4_count 94 = .ok (.getfield 80, 3) := by decide +kernel
theorem dX4_count_97 : decode cX4_count 97 = .ok (.invokevirtual 188, 3) := by decide +kernel
theorem dX4_count_100 : decode cX4_count 100 = .ok (.ireturn, 1) := by decide +kernel
theorem dX4_count_101 : decode cX4_count 101 = .ok (.aload_n 0, 1) := by decide +kernel
theorem dX4_count_102 : decode cX4_count 102 = .ok (.getfield 160, 3) := by decide +kernel
theorem dX4_count_105 : decode cX4_count 105 = .ok (.ireturn, 1) := by decide +kernel
theorem dX4_count_106 : decode cX4_count 106 = .ok (.aload_n 0, 1) := by decide +kernel
theorem dX4_count_107 : decode cX4_count 107 = .ok (.getfield 25, 3) := by decide +kernel
theorem dX4_count_110 : decode cX4_count 110 = .ok (.getfield 192, 3) := by decide +kernel
theorem dX4_count_113 : decode cX4_count 113 = .ok (.ireturn, 1) := by decide +kernel
theorem dX4_count_114 : decode cX4_count 114 = .ok (.iload_n 1, 1) := by decide +kernel
theorem dX4_count_115 : decode cX4_count 115 = .ok (.bipush 10, 2) := by decide +kernel
theorem dX4_count_117 : decode cX4_count 117 = .ok (.if_icmp .le 21, 3) := by decide +kernel
theorem dX4_count_120 : decode cX4_count 120 = .ok (.iload_n 1, 1) := by decide +kernel
theorem dX4_count_121 : decode cX4_count 121 = .ok (.bipush 16, 2) := by decide +kernel
theorem dX4_count_123 : decode cX4_count 123 = .ok (.if_icmp .gt 15, 3) := by decide +kernel
theorem dX4_count_126 : decode cX4_count 126 = .ok (.aload_n 0, 1) := by decide +kernel
theorem dX4_count_127 : decode cX4_count 127 = .ok (.getfield 40, 3) := by decide +kernel
theorem dX4_count_130 : decode cX4_count 130 = .ok (.iload_n 1, 1) := by decide +kernel
theorem dX4_count_131 : decode cX4_count 131 = .ok (.bipush 10, 2) := by decide +kernel
theorem dX4_count_133 : decode cX4_count 133 = .ok (.isub, 1) := by decide +kernel
theorem dX4_count_134 : decode cX4_count 134 = .ok (.iaload, 1) := by decide +kernel
theorem dX4_count_135 : decode cX4_count 135 = .ok (.goto 5, 3) := by decide +kernel
theorem dX4_count_138 : decode cX4_count 138 = .ok (.bipush (-9), 2) := by decide +kernel
theorem dX4_count_140 : decode cX4_count 140 = .ok (.ireturn, 1) := by decide +kernel
theorem dX4_refuse_0 : decode cX4_refuse 0 = .ok (.iload_n 1, 1) := by decide +kernel
theorem dX4_refuse_1 : decode cX4_refuse 1 = .ok (.ineg, 1) := by decide +kernel
theorem dX4_refuse_2 : decode cX4_refuse 2 = .ok (.istore_n 2, 1) := by decide +kernel
theorem dX4_refuse_3 : decode cX4_refuse 3 = .ok (.iload_n 2, 1) := by decide +kernel
theorem dX4_refuse_4 : decode cX4_refuse 4 = .ok (.iconst 1, 1) := by decide +kernel
theorem dX4_refuse_5 : decode cX4_refuse 5 = .ok (.if_icmp .lt 19, 3) := by decide +kernel
theorem dX4_refuse_8 : decode cX4_refuse 8 = .ok (.iload_n 2, 1) := by decide +kernel
theorem dX4_refuse_9 : decode cX4_refuse 9 = .ok (.bipush 6, 2) := by decide +kernel
theorem dX4_refuse_11 : decode cX4_refuse 11 = .ok (.if_icmp .gt 13, 3) := by decide +kernel
theorem dX4_refuse_14 : decode cX4_refuse 14 = .ok (.aload_n 0, 1) := by decide +kernel
theorem dX4_refuse_15 : decode cX4_refuse 15 = .ok (.getfield 40, 3) := by decide +kernel
theorem dX4_refuse_18 : decode cX4_refuse 18 = .ok (.iload_n 2, 1) := by decide +kernel
theorem dX4_refuse_19 : decode cX4_refuse 19 = .ok (.dup2, 1) := by decide +kernel
theorem dX4_refuse_20 : decode cX4_refuse 20 = .ok (.iaload, 1) := by decide +kernel
theorem dX4_refuse_21 : decode cX4_refuse 21 = .ok (.iconst 1, 1) := by decide +kernel
theorem dX4_refuse_22 : decode cX4_refuse 22 = .ok (.iadd, 1) := by decide +kernel
theorem dX4_refuse_23 : decode cX4_refuse 23 = .ok (.iastore, 1) := by decide +kernel
theorem dX4_refuse_24 : decode cX4_refuse 24 = .ok (.iload_n 1, 1) := by decide +kernel
theorem dX4_refuse_25 : decode cX4_refuse 25 = .ok (.ireturn, 1) := by decide +kernel
set_option maxRecDepth 20000 in
theorem ggX4_refuseLong_X4_refuse : GoodIn wsX4_refuseLong wsX4_refuse := goodIn_r _ [6, 7, 8, 9, 10, 11, 12, 13, 14, 15, 16] (by decide +kernel) (by decide +kernel)
set_option maxRecDepth 20000 in
theorem gX4_refuseLong_X4_refuse : GoodIn wsX4_refuseLong (wsV RX4 43 RX4 yX4_refuse wsX4_refuse) := goodIn_app (goodIn_of _ (by decide +kernel)) ggX4_refuseLong_X4_refuse
theorem dX4_refuseLong_0 : decode cX4_refuseLong 0 = .ok (.ldc2_w 195, 3) := by decide +kernel
theorem dX4_refuseLong_3 : decode cX4_refuseLong 3 = .ok (.aload_n 0, 1) := by decide +kernel
theorem dX4_refuseLong_4 : decode cX4_refuseLong 4 = .ok (.iload_n 1, 1) := by decide +kernel
theorem dX4_refuseLong_5 : decode cX4_refuseLong 5 = .ok (.invokevirtual 43, 3) := by decide +kernel
theorem dX4_refuseLong_8 : decode cX4_refuseLong 8 = .ok (.i2l, 1) := by decide +kernel
theorem dX4_refuseLong_9 : decode cX4_refuseLong 9 = .ok (.lsub, 1) := by decide +kernel
theorem dX4_refuseLong_10 : decode cX4_refuseLong 10 = .ok (.lreturn, 1) := by decide +kernel
theorem dX4_isFloor_0 : decode cX4_isFloor 0 = .ok (.iload_n 0, 1) := by decide +kernel
theorem dX4_isFloor_1 : decode cX4_isFloor 1 = .ok (.ifCond .lt 13, 3) := by decide +kernel
theorem dX4_isFloor_4 : decode cX4_isFloor 4 = .ok (.iload_n 0, 1) := by decide +kernel
theorem dX4_isFloor_5 : decode cX4_isFloor 5 = .ok (.bipush 9, 2) := by decide +kernel
theorem dX4_isFloor_7 : decode cX4_isFloor 7 = .ok (.if_icmp .gt 7, 3) := by decide +kernel
theorem dX4_isFloor_10 : decode cX4_isFloor 10 = .ok (.iconst 1, 1) := by decide +kernel
theorem dX4_isFloor_11 : decode cX4_isFloor 11 = .ok (.goto 4, 3) := by decide +kernel
theorem dX4_isFloor_14 : decode cX4_isFloor 14 = .ok (.iconst 0, 1) := by decide +kernel
theorem dX4_isFloor_15 : decode cX4_isFloor 15 = .ok (.ireturn, 1) := by decide +kernel
theorem dX4_isKind_0 : decode cX4_isKind 0 = .ok (.iload_n 0, 1) := by decide +kernel
theorem dX4_isKind_1 : decode cX4_isKind 1 = .ok (.ifCond .lt 13, 3) := by decide +kernel
theorem dX4_isKind_4 : decode cX4_isKind 4 = .ok (.iload_n 0, 1) := by decide +kernel
theorem dX4_isKind_5 : decode cX4_isKind 5 = .ok (.bipush 6, 2) := by decide +kernel
theorem dX4_isKind_7 : decode cX4_isKind 7 = .ok (.if_icmp .ge 7, 3) := by decide +kernel
theorem dX4_isKind_10 : decode cX4_isKind 10 = .ok (.iconst 1, 1) := by decide +kernel
theorem dX4_isKind_11 : decode cX4_isKind 11 = .ok (.goto 4, 3) := by decide +kernel
theorem dX4_isKind_14 : decode cX4_isKind 14 = .ok (.iconst 0, 1) := by decide +kernel
theorem dX4_isKind_15 : decode cX4_isKind 15 = .ok (.ireturn, 1) := by decide +kernel
set_option maxRecDepth 20000 in
theorem ggX4_takeHouse_X2_firstMisfit : GoodIn wsX4_takeHouse wsX2_firstMisfit := goodIn_r _ [8, 9, 10, 11, 12, 7, 13, 14, 15, 16, 17, 18, 19, 20, 21, 22, 23, 24, 25, 26, 27, 28, 29, 30, 31, 32, 33, 147, 148] (by decide +kernel) (by decide +kernel)
set_option maxRecDepth 20000 in
theorem gX4_takeHouse_X2_firstMisfit : GoodIn wsX4_takeHouse (wsV RX4 197 RX2 yX2_firstMisfit wsX2_firstMisfit) := goodIn_app (goodIn_of _ (by decide +kernel)) ggX4_takeHouse_X2_firstMisfit
set_option maxRecDepth 20000 in
theorem ggX4_takeHouse_X3_becomeLike : GoodIn wsX4_takeHouse wsX3_becomeLike := goodIn_r _ [38, 39, 40, 41, 42, 43, 44, 45, 149, 150, 151, 152, 153, 154, 155] (by decide +kernel) (by decide +kernel)
set_option maxRecDepth 20000 in
theorem gX4_takeHouse_X3_becomeLike : GoodIn wsX4_takeHouse (wsV RX4 177 RX3 yX3_becomeLike wsX3_becomeLike) := goodIn_app (goodIn_of _ (by decide +kernel)) ggX4_takeHouse_X3_becomeLike
set_option maxRecDepth 20000 in
theorem ggX4_takeHouse_X2_playOn : GoodIn wsX4_takeHouse wsX2_playOn := goodIn_r _ [49, 9, 10, 11, 12, 7, 13, 14, 50, 51, 52, 53, 21, 22, 23, 24, 54, 55, 56, 57, 58, 59, 60, 37, 61, 62, 63, 64, 65, 44, 66, 67, 68, 69, 70, 71, 72, 73, 74, 75, 76, 41, 77, 78, 79, 80, 81, 82, 83, 84, 39, 40, 42, 43, 85, 86, 87, 88, 89, 90, 91, 92, 93, 94, 95, 96, 97, 98, 99, 100, 101, 102, 45, 103, 104, 105, 106, 107, 108, 109, 110, 111, 112, 113, 114, 115, 116, 117, 118, 119, 120, 121, 122, 123, 124, 125, 126, 127, 128, 129, 130, 131, 132, 133, 147, 148, 149, 150, 151, 152, 153, 154, 155] (by decide +kernel) (by decide +kernel)
set_option maxRecDepth 20000 in
theorem gX4_takeHouse_X2_playOn : GoodIn wsX4_takeHouse (wsV RX4 200 RX2 yX2_playOn wsX2_playOn) := goodIn_app (goodIn_of _ (by decide +kernel)) ggX4_takeHouse_X2_playOn
set_option maxRecDepth 20000 in
theorem ggX4_takeHouse_X2_statements : GoodIn wsX4_takeHouse wsX2_statements := goodIn_r _ [137, 9, 10, 11, 12, 7, 13, 14, 147, 148] (by decide +kernel) (by decide +kernel)
set_option maxRecDepth 20000 in
theorem gX4_takeHouse_X2_statements : GoodIn wsX4_takeHouse (wsV RX4 204 RX2 yX2_statements wsX2_statements) := goodIn_app (goodIn_of _ (by decide +kernel)) ggX4_takeHouse_X2_statements
theorem dX4_takeHouse_0 : decode cX4_takeHouse 0 = .ok (.aload_n 0, 1) := by decide +kernel
theorem dX4_takeHouse_1 : decode cX4_takeHouse 1 = .ok (.getfield 25, 3) := by decide +kernel
theorem dX4_takeHouse_4 : decode cX4_takeHouse 4 = .ok (.invokevirtual 197, 3) := by decide +kernel
theorem dX4_takeHouse_7 : decode cX4_takeHouse 7 = .ok (.istore_n 1, 1) := by decide +kernel
theorem dX4_takeHouse_8 : decode cX4_takeHouse 8 = .ok (.iload_n 1, 1) := by decide +kernel
theorem dX4_takeHouse_9 : decode cX4_takeHouse 9 = .ok (.ifCond .lt 9, 3) := by decide +kernel
theorem dX4_takeHouse_12 : decode cX4_takeHouse 12 = .ok (.sipush (-1000), 3) := by decide +kernel
theorem dX4_takeHouse_15 : decode cX4_takeHouse 15 = .ok (.iload_n 1, 1) := by decide +kernel
theorem dX4_takeHouse_16 : decode cX4_takeHouse 16 = .ok (.isub, 1) := by decide +kernel
theorem dX4_takeHouse_17 : decode cX4_takeHouse 17 = .ok (.ireturn, 1) := by decide +kernel
theorem dX4_takeHouse_18 : decode cX4_takeHouse 18 = .ok (.aload_n 0, 1) := by decide +kernel
theorem dX4_takeHouse_19 : decode cX4_takeHouse 19 = .ok (.getfield 16, 3) := by decide +kernel
theorem dX4_takeHouse_22 : decode cX4_takeHouse 22 = .ok (.aload_n 0, 1) := by decide +kernel
theorem dX4_takeHouse_23 : decode cX4_takeHouse 23 = .ok (.getfield 10, 3) := by decide +kernel
theorem dX4_takeHouse_26 : decode cX4_takeHouse 26 = .ok (.invokevirtual 177, 3) := by decide +kernel
theorem dX4_takeHouse_29 : decode cX4_takeHouse 29 = .ok (.aload_n 0, 1) := by decide +kernel
theorem dX4_takeHouse_30 : decode cX4_takeHouse 30 = .ok (.getfield 25, 3) := by decide +kernel
theorem dX4_takeHouse_33 : decode cX4_takeHouse 33 = .ok (.aload_n 0, 1) := by decide +kernel
theorem dX4_takeHouse_34 : decode cX4_takeHouse 34 = .ok (.getfield 16, 3) := by decide +kernel
theorem dX4_takeHouse_37 : decode cX4_takeHouse 37 = .ok (.invokevirtual 200, 3) := by decide +kernel
theorem dX4_takeHouse_40 : decode cX4_takeHouse 40 = .ok (.istore_n 1, 1) := by decide +kernel
theorem dX4_takeHouse_41 : decode cX4_takeHouse 41 = .ok (.iload_n 1, 1) := by decide +kernel
theorem dX4_takeHouse_42 : decode cX4_takeHouse 42 = .ok (.ifCond .lt 9, 3) := by decide +kernel
theorem dX4_takeHouse_45 : decode cX4_takeHouse 45 = .ok (.sipush (-2000), 3) := by decide +kernel
theorem dX4_takeHouse_48 : decode cX4_takeHouse 48 = .ok (.iload_n 1, 1) := by decide +kernel
theorem dX4_takeHouse_49 : decode cX4_takeHouse 49 = .ok (.isub, 1) := by decide +kernel
theorem dX4_takeHouse_50 : decode cX4_takeHouse 50 = .ok (.ireturn, 1) := by decide +kernel
theorem dX4_takeHouse_51 : decode cX4_takeHouse 51 = .ok (.aload_n 0, 1) := by decide +kernel
theorem dX4_takeHouse_52 : decode cX4_takeHouse 52 = .ok (.getfield 10, 3) := by decide +kernel
theorem dX4_takeHouse_55 : decode cX4_takeHouse 55 = .ok (.aload_n 0, 1) := by decide +kernel
theorem dX4_takeHouse_56 : decode cX4_takeHouse 56 = .ok (.getfield 16, 3) := by decide +kernel
theorem dX4_takeHouse_59 : decode cX4_takeHouse 59 = .ok (.invokevirtual 177, 3) := by decide +kernel
theorem dX4_takeHouse_62 : decode cX4_takeHouse 62 = .ok (.aload_n 0, 1) := by decide +kernel
theorem dX4_takeHouse_63 : decode cX4_takeHouse 63 = .ok (.getfield 25, 3) := by decide +kernel
theorem dX4_takeHouse_66 : decode cX4_takeHouse 66 = .ok (.invokevirtual 204, 3) := by decide +kernel
theorem dX4_takeHouse_69 : decode cX4_takeHouse 69 = .ok (.ireturn, 1) := by decide +kernel
set_option maxRecDepth 20000 in
theorem ggX4_fitsTheRow_X3_floorsOf : GoodIn wsX4_fitsTheRow wsX3_floorsOf := goodIn_r _ [9, 10, 11, 12, 8, 13, 45, 46, 47, 48, 49, 50, 51] (by decide +kernel) (by decide +kernel)
set_option maxRecDepth 20000 in
theorem gX4_fitsTheRow_X3_floorsOf : GoodIn wsX4_fitsTheRow (wsV RX4 139 RX3 yX3_floorsOf wsX3_floorsOf) := goodIn_app (goodIn_of _ (by decide +kernel)) ggX4_fitsTheRow_X3_floorsOf
set_option maxRecDepth 20000 in
theorem ggX4_fitsTheRow_X3_isAlive : GoodIn wsX4_fitsTheRow wsX3_isAlive := goodIn_r _ [17, 18, 10, 45, 46, 47, 48, 49, 50, 51] (by decide +kernel) (by decide +kernel)
set_option maxRecDepth 20000 in
theorem gX4_fitsTheRow_X3_isAlive : GoodIn wsX4_fitsTheRow (wsV RX4 74 RX3 yX3_isAlive wsX3_isAlive) := goodIn_app (goodIn_of _ (by decide +kernel)) ggX4_fitsTheRow_X3_isAlive
set_option maxRecDepth 20000 in
theorem ggX4_fitsTheRow_X3_holds : GoodIn wsX4_fitsTheRow wsX3_holds := goodIn_r _ [13] (by decide +kernel) (by decide +kernel)
set_option maxRecDepth 20000 in
theorem gX4_fitsTheRow_X3_holds : GoodIn wsX4_fitsTheRow (va_wsS RX4 207 yX3_holds wsX3_holds) := goodIn_app (goodIn_of _ (by decide +kernel)) ggX4_fitsTheRow_X3_holds
set_option maxRecDepth 20000 in
theorem ggX4_fitsTheRow_X3_floorsUp : GoodIn wsX4_fitsTheRow wsX3_floorsUp := goodIn_r _ [23, 10, 24, 25, 26, 8, 27, 28, 29, 30, 31, 32, 33, 34, 35, 45, 46, 47, 48, 49, 50, 51] (by decide +kernel) (by decide +kernel)
set_option maxRecDepth 20000 in
theorem gX4_fitsTheRow_X3_floorsUp : GoodIn wsX4_fitsTheRow (wsV RX4 142 RX3 yX3_floorsUp wsX3_floorsUp) := goodIn_app (goodIn_of _ (by decide +kernel)) ggX4_fitsTheRow_X3_floorsUp
theorem dX4_fitsTheRow_0 : decode cX4_fitsTheRow 0 = .ok (.aload_n 0, 1) := by decide +kernel
theorem dX4_fitsTheRow_1 : decode cX4_fitsTheRow 1 = .ok (.getfield 10, 3) := by decide +kernel
theorem dX4_fitsTheRow_4 : decode cX4_fitsTheRow 4 = .ok (.iload_n 1, 1) := by decide +kernel
theorem dX4_fitsTheRow_5 : decode cX4_fitsTheRow 5 = .ok (.invokevirtual 139, 3) := by decide +kernel
theorem dX4_fitsTheRow_8 : decode cX4_fitsTheRow 8 = .ok (.istore_n 2, 1) := by decide +kernel
theorem dX4_fitsTheRow_9 : decode cX4_fitsTheRow 9 = .ok (.iconst 0, 1) := by decide +kernel
theorem dX4_fitsTheRow_10 : decode cX4_fitsTheRow 10 = .ok (.istore_n 3, 1) := by decide +kernel
theorem dX4_fitsTheRow_11 : decode cX4_fitsTheRow 11 = .ok (.iconst 0, 1) := by decide +kernel
theorem dX4_fitsTheRow_12 : decode cX4_fitsTheRow 12 = .ok (.istore 4, 2) := by decide +kernel
theorem dX4_fitsTheRow_14 : decode cX4_fitsTheRow 14 = .ok (.iload 4, 2) := by decide +kernel
theorem dX4_fitsTheRow_16 : decode cX4_fitsTheRow 16 = .ok (.bipush 8, 2) := by decide +kernel
theorem dX4_fitsTheRow_18 : decode cX4_fitsTheRow 18 = .ok (.if_icmp .ge 95, 3) := by decide +kernel
theorem dX4_fitsTheRow_21 : decode cX4_fitsTheRow 21 = .ok (.iload_n 3, 1) := by decide +kernel
theorem dX4_fitsTheRow_22 : decode cX4_fitsTheRow 22 = .ok (.aload_n 0, 1) := by decide +kernel
theorem dX4_fitsTheRow_23 : decode cX4_fitsTheRow 23 = .ok (.getfield 160, 3) := by decide +kernel
theorem dX4_fitsTheRow_26 : decode cX4_fitsTheRow 26 = .ok (.if_icmp .ge 87, 3) := by decide +kernel
theorem dX4_fitsTheRow_29 : decode cX4_fitsTheRow 29 = .ok (.aload_n 0, 1) := by decide +kernel
theorem dX4_fitsTheRow_30 : decode cX4_fitsTheRow 30 = .ok (.getfield 10, 3) := by decide +kernel
theorem dX4_fitsTheRow_33 : decode cX4_fitsTheRow 33 = .ok (.iload 4, 2) := by decide +kernel
theorem dX4_fitsTheRow_35 : decode cX4_fitsTheRow 35 = .ok (.invokevirtual 74, 3) := by decide +kernel
theorem dX4_fitsTheRow_38 : decode cX4_fitsTheRow 38 = .ok (.ifCond .ne 6, 3) := by decide +kernel
theorem dX4_fitsTheRow_41 : decode cX4_fitsTheRow 41 = .ok (.goto 66, 3) := by decide +kernel
theorem dX4_fitsTheRow_44 : decode cX4_fitsTheRow 44 = .ok (.iload_n 1, 1) := by decide +kernel
theorem dX4_fitsTheRow_45 : decode cX4_fitsTheRow 45 = .ok (.iload 4, 2) := by decide +kernel
theorem dX4_fitsTheRow_47 : decode cX4_fitsTheRow 47 = .ok (.invokestatic 207, 3) := by decide +kernel
theorem dX4_fitsTheRow_50 : decode cX4_fitsTheRow 50 = .ok (.ifCond .eq 7, 3) := by decide +kernel
theorem dX4_fitsTheRow_53 : decode cX4_fitsTheRow 53 = .ok (.iconst (-1), 1) := by decide +kernel
theorem dX4_fitsTheRow_54 : decode cX4_fitsTheRow 54 = .ok (.goto 24, 3) := by decide +kernel
theorem dX4_fitsTheRow_57 : decode cX4_fitsTheRow 57 = .ok (.aload_n 0, 1) := by decide +kernel
theorem dX4_fitsTheRow_58 : decode cX4_fitsTheRow 58 = .ok (.getfield 10, 3) := by decide +kernel
theorem dX4_fitsTheRow_61 : decode cX4_fitsTheRow 61 = .ok (.getfield 83, 3) := by decide +kernel
theorem dX4_fitsTheRow_64 : decode cX4_fitsTheRow 64 = .ok (.iload 4, 2) := by decide +kernel
theorem dX4_fitsTheRow_66 : decode cX4_fitsTheRow 66 = .ok (.iaload, 1) := by decide +kernel
theorem dX4_fitsTheRow_67 : decode cX4_fitsTheRow 67 = .ok (.aload_n 0, 1) := by decide +kernel
theorem dX4_fitsTheRow_68 : decode cX4_fitsTheRow 68 = .ok (.getfield 10, 3) := by decide +kernel
theorem dX4_fitsTheRow_71 : decode cX4_fitsTheRow 71 = .ok (.iload 4, 2) := by decide +kernel
theorem dX4_fitsTheRow_73 : decode cX4_fitsTheRow 73 = .ok (.iload_n 2, 1) := by decide +kernel
theorem dX4_fitsTheRow_74 : decode cX4_fitsTheRow 74 = .ok (.invokevirtual 142, 3) := by decide +kernel
theorem dX4_fitsTheRow_77 : decode cX4_fitsTheRow 77 = .ok (.iadd, 1) := by decide +kernel
theorem dX4_fitsTheRow_78 : decode cX4_fitsTheRow 78 = .ok (.istore 5, 2) := by decide +kernel
theorem dX4_fitsTheRow_80 : decode cX4_fitsTheRow 80 = .ok (.aload_n 0, 1) := by decide +kernel
theorem dX4_fitsTheRow_81 : decode cX4_fitsTheRow 81 = .ok (.getfield 36, 3) := by decide +kernel
theorem dX4_fitsTheRow_84 : decode cX4_fitsTheRow 84 = .ok (.iload_n 3, 1) := by decide +kernel
theorem dX4_fitsTheRow_85 : decode cX4_fitsTheRow 85 = .ok (.iaload, 1) := by decide +kernel
theorem dX4_fitsTheRow_86 : decode cX4_fitsTheRow 86 = .ok (.bipush 10, 2) := by decide +kernel
theorem dX4_fitsTheRow_88 : decode cX4_fitsTheRow 88 = .ok (.if_icmp .eq 16, 3) := by decide +kernel
theorem dX4_fitsTheRow_91 : decode cX4_fitsTheRow 91 = .ok (.aload_n 0, 1) := by decide +kernel
theorem dX4_fitsTheRow_92 : decode cX4_fitsTheRow 92 = .ok (.getfield 36, 3) := by decide +kernel
theorem dX4_fitsTheRow_95 : decode cX4_fitsTheRow 95 = .ok (.iload_n 3, 1) := by decide +kernel
theorem dX4_fitsTheRow_96 : decode cX4_fitsTheRow 96 = .ok (.iaload, 1) := by decide +kernel
theorem dX4_fitsTheRow_97 : decode cX4_fitsTheRow 97 = .ok (.iload 5, 2) := by decide +kernel
theorem dX4_fitsTheRow_99 : decode cX4_fitsTheRow 99 = .ok (.if_icmp .eq 5, 3) := by decide +kernel
theorem dX4_fitsTheRow_102 : decode cX4_fitsTheRow 102 = .ok (.iconst 0, 1) := by decide +kernel
theorem dX4_fitsTheRow_103 : decode cX4_fitsTheRow 103 = .ok (.ireturn, 1) := by decide +kernel
theorem dX4_fitsTheRow_104 : decode cX4_fitsTheRow 104 = .ok (.iinc 3 1, 3) := by decide +kernel
theorem dX4_fitsTheRow_107 : decode cX4_fitsTheRow 107 = .ok (.iinc 4 1, 3) := by decide +kernel
theorem dX4_fitsTheRow_110 : decode cX4_fitsTheRow 110 = .ok (.goto (-96), 3) := by decide +kernel
theorem dX4_fitsTheRow_113 : decode cX4_fitsTheRow 113 = .ok (.iconst 1, 1) := by decide +kernel
theorem dX4_fitsTheRow_114 : decode cX4_fitsTheRow 114 = .ok (.ireturn, 1) := by decide +kernel
set_option maxRecDepth 20000 in
theorem ggX4_firstNotSo_X3_isAlive : GoodIn wsX4_firstNotSo wsX3_isAlive := goodIn_r _ [9, 10, 11, 21, 22, 23, 24, 25, 26, 27] (by decide +kernel) (by decide +kernel)
set_option maxRecDepth 20000 in
theorem gX4_firstNotSo_X3_isAlive : GoodIn wsX4_firstNotSo (wsV RX4 74 RX3 yX3_isAlive wsX3_isAlive) := goodIn_app (goodIn_of _ (by decide +kernel)) ggX4_firstNotSo_X3_isAlive
theorem dX4_firstNotSo_0 : decode cX4_firstNotSo 0 = .ok (.iconst 0, 1) := by decide +kernel
theorem dX4_firstNotSo_1 : decode cX4_firstNotSo 1 = .ok (.istore_n 1, 1) := by decide +kernel
theorem dX4_firstNotSo_2 : decode cX4_firstNotSo 2 = .ok (.iconst 0, 1) := by decide +kernel
theorem dX4_firstNotSo_3 : decode cX4_firstNotSo 3 = .ok (.istore_n 2, 1) := by decide +kernel
theorem dX4_firstNotSo_4 : decode cX4_firstNotSo 4 = .ok (.iload_n 2, 1) := by decide +kernel
theorem dX4_firstNotSo_5 : decode cX4_firstNotSo 5 = .ok (.bipush 8, 2) := by decide +kernel
theorem dX4_firstNotSo_7 : decode cX4_firstNotSo 7 = .ok (.if_icmp .ge 54, 3) := by decide +kernel
theorem dX4_firstNotSo_10 : decode cX4_firstNotSo 10 = .ok (.aload_n 0, 1) := by decide +kernel
theorem dX4_firstNotSo_11 : decode cX4_firstNotSo 11 = .ok (.getfield 10, 3) := by decide +kernel
theorem dX4_firstNotSo_14 : decode cX4_firstNotSo 14 = .ok (.iload_n 2, 1) := by decide +kernel
theorem dX4_firstNotSo_15 : decode cX4_firstNotSo 15 = .ok (.invokevirtual 74, 3) := by decide +kernel
theorem dX4_firstNotSo_18 : decode cX4_firstNotSo 18 = .ok (.ifCond .ne 6, 3) := by decide +kernel
theorem dX4_firstNotSo_21 : decode cX4_firstNotSo 21 = .ok (.goto 34, 3) := by decide +kernel
theorem dX4_firstNotSo_24 : decode cX4_firstNotSo 24 = .ok (.iload_n 1, 1) := by decide +kernel
theorem dX4_firstNotSo_25 : decode cX4_firstNotSo 25 = .ok (.aload_n 0, 1) := by decide +kernel
theorem dX4_firstNotSo_26 : decode cX4_firstNotSo 26 = .ok (.getfield 160, 3) := by decide +kernel
theorem dX4_firstNotSo_29 : decode cX4_firstNotSo 29 = .ok (.if_icmp .ge 21, 3) := by decide +kernel
theorem dX4_firstNotSo_32 : decode cX4_firstNotSo 32 = .ok (.aload_n 0, 1) := by decide +kernel
theorem dX4_firstNotSo_33 : decode cX4_firstNotSo 33 = .ok (.getfield 36, 3) := by decide +kernel
theorem dX4_firstNotSo_36 : decode cX4_firstNotSo 36 = .ok (.iload_n 1, 1) := by decide +kernel
theorem dX4_firstNotSo_37 : decode cX4_firstNotSo 37 = .ok (.iaload, 1) := by decide +kernel
theorem dX4_firstNotSo_38 : decode cX4_firstNotSo 38 = .ok (.aload_n 0, 1) := by decide +kernel
theorem dX4_firstNotSo_39 : decode cX4_firstNotSo 39 = .ok (.getfield 10, 3) := by decide +kernel
theorem dX4_firstNotSo_42 : decode cX4_firstNotSo 42 = .ok (.getfield 83, 3) := by decide +kernel
theorem dX4_firstNotSo_45 : decode cX4_firstNotSo 45 = .ok (.iload_n 2, 1) := by decide +kernel
theorem dX4_firstNotSo_46 : decode cX4_firstNotSo 46 = .ok (.iaload, 1) := by decide +kernel
theorem dX4_firstNotSo_47 : decode cX4_firstNotSo 47 = .ok (.if_icmp .eq 5, 3) := by decide +kernel
theorem dX4_firstNotSo_50 : decode cX4_firstNotSo 50 = .ok (.iload_n 1, 1) := by decide +kernel
theorem dX4_firstNotSo_51 : decode cX4_firstNotSo 51 = .ok (.ireturn, 1) := by decide +kernel
theorem dX4_firstNotSo_52 : decode cX4_firstNotSo 52 = .ok (.iinc 1 1, 3) := by decide +kernel
theorem dX4_firstNotSo_55 : decode cX4_firstNotSo 55 = .ok (.iinc 2 1, 3) := by decide +kernel
theorem dX4_firstNotSo_58 : decode cX4_firstNotSo 58 = .ok (.goto (-54), 3) := by decide +kernel
theorem dX4_firstNotSo_61 : decode cX4_firstNotSo 61 = .ok (.iload_n 1, 1) := by decide +kernel
theorem dX4_firstNotSo_62 : decode cX4_firstNotSo 62 = .ok (.aload_n 0, 1) := by decide +kernel
theorem dX4_firstNotSo_63 : decode cX4_firstNotSo 63 = .ok (.getfield 160, 3) := by decide +kernel
theorem dX4_firstNotSo_66 : decode cX4_firstNotSo 66 = .ok (.if_icmp .ge 7, 3) := by decide +kernel
theorem dX4_firstNotSo_69 : decode cX4_firstNotSo 69 = .ok (.iload_n 1, 1) := by decide +kernel
theorem dX4_firstNotSo_70 : decode cX4_firstNotSo 70 = .ok (.goto 5, 3) := by decide +kernel
theorem dX4_firstNotSo_73 : decode cX4_firstNotSo 73 = .ok (.bipush (-9), 2) := by decide +kernel
theorem dX4_firstNotSo_75 : decode cX4_firstNotSo 75 = .ok (.ireturn, 1) := by decide +kernel
theorem dX5_init_0 : decode cX5_init 0 = .ok (.aload_n 0, 1) := by decide +kernel
theorem dX5_init_1 : decode cX5_init 1 = .ok (.invokespecial 1, 3) := by decide +kernel
theorem dX5_init_4 : decode cX5_init 4 = .ok (.aload_n 0, 1) := by decide +kernel
theorem dX5_init_5 : decode cX5_init 5 = .ok (.bipush 7, 2) := by decide +kernel
theorem dX5_init_7 : decode cX5_init 7 = .ok (.newarray .int, 2) := by decide +kernel
theorem dX5_init_9 : decode cX5_init 9 = .ok (.putfield 7, 3) := by decide +kernel
theorem dX5_init_12 : decode cX5_init 12 = .ok (.aload_n 0, 1) := by decide +kernel
theorem dX5_init_13 : decode cX5_init 13 = .ok (.bipush 8, 2) := by decide +kernel
theorem dX5_init_15 : decode cX5_init 15 = .ok (.newarray .int, 2) := by decide +kernel
theorem dX5_init_17 : decode cX5_init 17 = .ok (.putfield 13, 3) := by decide +kernel
theorem dX5_init_20 : decode cX5_init 20 = .ok (.aload_n 0, 1) := by decide +kernel
theorem dX5_init_21 : decode cX5_init 21 = .ok (.bipush 8, 2) := by decide +kernel
theorem dX5_init_23 : decode cX5_init 23 = .ok (.newarray .int, 2) := by decide +kernel
theorem dX5_init_25 : decode cX5_init 25 = .ok (.putfield 16, 3) := by decide +kernel
theorem dX5_init_28 : decode cX5_init 28 = .ok (.aload_n 0, 1) := by decide +kernel
theorem dX5_init_29 : decode cX5_init 29 = .ok (.bipush 8, 2) := by decide +kernel
theorem dX5_init_31 : decode cX5_init 31 = .ok (.newarray .int, 2) := by decide +kernel
theorem dX5_init_33 : decode cX5_init 33 = .ok (.putfield 19, 3) := by decide +kernel
theorem dX5_init_36 : decode cX5_init 36 = .ok (.aload_n 0, 1) := by decide +kernel
theorem dX5_init_37 : decode cX5_init 37 = .ok (.bipush 8, 2) := by decide +kernel
theorem dX5_init_39 : decode cX5_init 39 = .ok (.newarray .int, 2) := by decide +kernel
theorem dX5_init_41 : decode cX5_init 41 = .ok (.putfield 22, 3) := by decide +kernel
theorem dX5_init_44 : decode cX5_init 44 = .ok (.aload_n 0, 1) := by decide +kernel
theorem dX5_init_45 : decode cX5_init 45 = .ok (.bipush 8, 2) := by decide +kernel
theorem dX5_init_47 : decode cX5_init 47 = .ok (.newarray .int, 2) := by decide +kernel
theorem dX5_init_49 : decode cX5_init 49 = .ok (.putfield 25, 3) := by decide +kernel
theorem dX5_init_52 : decode cX5_init 52 = .ok (.aload_n 0, 1) := by decide +kernel
theorem dX5_init_53 : decode cX5_init 53 = .ok (.bipush 80, 2) := by decide +kernel
theorem dX5_init_55 : decode cX5_init 55 = .ok (.newarray .int, 2) := by decide +kernel
theorem dX5_init_57 : decode cX5_init 57 = .ok (.putfield 28, 3) := by decide +kernel
theorem dX5_init_60 : decode cX5_init 60 = .ok (.aload_n 0, 1) := by decide +kernel
theorem dX5_init_61 : decode cX5_init 61 = .ok (.bipush 40, 2) := by decide +kernel
theorem dX5_init_63 : decode cX5_init 63 = .ok (.newarray .int, 2) := by decide +kernel
theorem dX5_init_65 : decode cX5_init 65 = .ok (.putfield 31, 3) := by decide +kernel
theorem dX5_init_68 : decode cX5_init 68 = .ok (.aload_n 0, 1) := by decide +kernel
theorem dX5_init_69 : decode cX5_init 69 = .ok (.bipush 40, 2) := by decide +kernel
theorem dX5_init_71 : decode cX5_init 71 = .ok (.newarray .int, 2) := by decide +kernel
theorem dX5_init_73 : decode cX5_init 73 = .ok (.putfield 34, 3) := by decide +kernel
theorem dX5_init_76 : decode cX5_init 76 = .ok (.aload_n 0, 1) := by decide +kernel
theorem dX5_init_77 : decode cX5_init 77 = .ok (.bipush 120, 2) := by decide +kernel
theorem dX5_init_79 : decode cX5_init 79 = .ok (.newarray .int, 2) := by decide +kernel
theorem dX5_init_81 : decode cX5_init 81 = .ok (.putfield 37, 3) := by decide +kernel
theorem dX5_init_84 : decode cX5_init 84 = .ok (.aload_n 0, 1) := by decide +kernel
theorem dX5_init_85 : decode cX5_init 85 = .ok (.bipush 40, 2) := by decide +kernel
theorem dX5_init_87 : decode cX5_init 87 = .ok (.newarray .int, 2) := by decide +kernel
theorem dX5_init_89 : decode cX5_init 89 = .ok (.putfield 40, 3) := by decide +kernel
theorem dX5_init_92 : decode cX5_init 92 = .ok (.aload_n 0, 1) := by decide +kernel
theorem dX5_init_93 : decode cX5_init 93 = .ok (.bipush 40, 2) := by decide +kernel
theorem dX5_init_95 : decode cX5_init 95 = .ok (.newarray .int, 2) := by decide +kernel
theorem dX5_init_97 : decode cX5_init 97 = .ok (.putfield 43, 3) := by decide +kernel
theorem dX5_init_100 : decode cX5_init 100 = .ok (.aload_n 0, 1) := by decide +kernel
theorem dX5_init_101 : decode cX5_init 101 = .ok (.sipush 130, 3) := by decide +kernel
theorem dX5_init_104 : decode cX5_init 104 = .ok (.newarray .int, 2) := by decide +kernel
theorem dX5_init_106 : decode cX5_init 106 = .ok (.putfield 46, 3) := by decide +kernel
theorem dX5_init_109 : decode cX5_init 109 = .ok (.aload_n 0, 1) := by decide +kernel
theorem dX5_init_110 : decode cX5_init 110 = .ok (.bipush 8, 2) := by decide +kernel
theorem dX5_init_112 : decode cX5_init 112 = .ok (.newarray .int, 2) := by decide +kernel
theorem dX5_init_114 : decode cX5_init 114 = .ok (.putfield 49, 3) := by decide +kernel
theorem dX5_init_117 : decode cX5_init 117 = .ok (.aload_n 0, 1) := by decide +kernel
theorem dX5_init_118 : decode cX5_init 118 = .ok (.bipush 8, 2) := by decide +kernel
theorem dX5_init_120 : decode cX5_init 120 = .ok (.newarray .int, 2) := by decide +kernel
theorem dX5_init_122 : decode cX5_init 122 = .ok (.putfield 52, 3) := by decide +kernel
theorem dX5_init_125 : decode cX5_init 125 = .ok (.return_, 1) := by decide +kernel
theorem dX5_no_0 : decode cX5_no 0 = .ok (.aload_n 0, 1) := by decide +kernel
theorem dX5_no_1 : decode cX5_no 1 = .ok (.getfield 7, 3) := by decide +kernel
theorem dX5_no_4 : decode cX5_no 4 = .ok (.iload_n 1, 1) := by decide +kernel
theorem dX5_no_5 : decode cX5_no 5 = .ok (.ineg, 1) := by decide +kernel
theorem dX5_no_6 : decode cX5_no 6 = .ok (.dup2, 1) := by decide +kernel
theorem dX5_no_7 : decode cX5_no 7 = .ok (.iaload, 1) := by decide +kernel
theorem dX5_no_8 : decode cX5_no 8 = .ok (.iconst 1, 1) := by decide +kernel
theorem dX5_no_9 : decode cX5_no 9 = .ok (.iadd, 1) := by decide +kernel
theorem dX5_no_10 : decode cX5_no 10 = .ok (.iastore, 1) := by decide +kernel
theorem dX5_no_11 : decode cX5_no 11 = .ok (.iload_n 1, 1) := by decide +kernel
theorem dX5_no_12 : decode cX5_no 12 = .ok (.ireturn, 1) := by decide +kernel
theorem dX5_lowest_0 : decode cX5_lowest 0 = .ok (.aload_n 0, 1) := by decide +kernel
theorem dX5_lowest_1 : decode cX5_lowest 1 = .ok (.getfield 7, 3) := by decide +kernel
theorem dX5_lowest_4 : decode cX5_lowest 4 = .ok (.iload_n 1, 1) := by decide +kernel
theorem dX5_lowest_5 : decode cX5_lowest 5 = .ok (.ineg, 1) := by decide +kernel
theorem dX5_lowest_6 : decode cX5_lowest 6 = .ok (.dup2, 1) := by decide +kernel
theorem dX5_lowest_7 : decode cX5_lowest 7 = .ok (.iaload, 1) := by decide +kernel
theorem dX5_lowest_8 : decode cX5_lowest 8 = .ok (.iconst 1, 1) := by decide +kernel
theorem dX5_lowest_9 : decode cX5_lowest 9 = .ok (.iadd, 1) := by decide +kernel
theorem dX5_lowest_10 : decode cX5_lowest 10 = .ok (.iastore, 1) := by decide +kernel
theorem dX5_lowest_11 : decode cX5_lowest 11 = .ok (.ldc2_w 55, 3) := by decide +kernel
theorem dX5_lowest_14 : decode cX5_lowest 14 = .ok (.iload_n 1, 1) := by decide +kernel
theorem dX5_lowest_15 : decode cX5_lowest 15 = .ok (.i2l, 1) := by decide +kernel
theorem dX5_lowest_16 : decode cX5_lowest 16 = .ok (.lsub, 1) := by decide +kernel
theorem dX5_lowest_17 : decode cX5_lowest 17 = .ok (.lreturn, 1) := by decide +kernel
theorem dX5_isIn_0 : decode cX5_isIn 0 = .ok (.iload_n 0, 1) := by decide +kernel
theorem dX5_isIn_1 : decode cX5_isIn 1 = .ok (.iload_n 1, 1) := by decide +kernel
theorem dX5_isIn_2 : decode cX5_isIn 2 = .ok (.if_icmp .lt 12, 3) := by decide +kernel
theorem dX5_isIn_5 : decode cX5_isIn 5 = .ok (.iload_n 0, 1) := by decide +kernel
theorem dX5_isIn_6 : decode cX5_isIn 6 = .ok (.iload_n 2, 1) := by decide +kernel
theorem dX5_isIn_7 : decode cX5_isIn 7 = .ok (.if_icmp .gt 7, 3) := by decide +kernel
theorem dX5_isIn_10 : decode cX5_isIn 10 = .ok (.iconst 1, 1) := by decide +kernel
theorem dX5_isIn_11 : decode cX5_isIn 11 = .ok (.goto 4, 3) := by decide +kernel
theorem dX5_isIn_14 : decode cX5_isIn 14 = .ok (.iconst 0, 1) := by decide +kernel
theorem dX5_isIn_15 : decode cX5_isIn 15 = .ok (.ireturn, 1) := by decide +kernel
theorem dX5_bound_0 : decode cX5_bound 0 = .ok (.iload_n 0, 1) := by decide +kernel
theorem dX5_bound_1 : decode cX5_bound 1 = .ok (.iload_n 1, 1) := by decide +kernel
theorem dX5_bound_2 : decode cX5_bound 2 = .ok (.if_icmp .ge 8, 3) := by decide +kernel
theorem dX5_bound_5 : decode cX5_bound 5 = .ok (.bipush (-4), 2) := by decide +kernel
theorem dX5_bound_7 : decode cX5_bound 7 = .ok (.goto 14, 3) := by decide +kernel
theorem dX5_bound_10 : decode cX5_bound 10 = .ok (.iload_n 0, 1) := by decide +kernel
theorem dX5_bound_11 : decode cX5_bound 11 = .ok (.iload_n 2, 1) := by decide +kernel
theorem dX5_bound_12 : decode cX5_bound 12 = .ok (.if_icmp .le 8, 3) := by decide +kernel
theorem dX5_bound_15 : decode cX5_bound 15 = .ok (.bipush (-6), 2) := by decide +kernel
theorem dX5_bound_17 : decode cX5_bound 17 = .ok (.goto 4, 3) := by decide +kernel
theorem dX5_bound_20 : decode cX5_bound 20 = .ok (.iconst 0, 1) := by decide +kernel
theorem dX5_bound_21 : decode cX5_bound 21 = .ok (.ireturn, 1) := by decide +kernel
theorem dX5_least_0 : decode cX5_least 0 = .ok (.iload_n 0, 1) := by decide +kernel
theorem dX5_least_1 : decode cX5_least 1 = .ok (.iload_n 1, 1) := by decide +kernel
theorem dX5_least_2 : decode cX5_least 2 = .ok (.if_icmp .ge 7, 3) := by decide +kernel
theorem dX5_least_5 : decode cX5_least 5 = .ok (.iload_n 0, 1) := by decide +kernel
theorem dX5_least_6 : decode cX5_least 6 = .ok (.goto 4, 3) := by decide +kernel
theorem dX5_least_9 : decode cX5_least 9 = .ok (.iload_n 1, 1) := by decide +kernel
theorem dX5_least_10 : decode cX5_least 10 = .ok (.ireturn, 1) := by decide +kernel
theorem dX5_isAlive_0 : decode cX5_isAlive 0 = .ok (.iload_n 1, 1) := by decide +kernel
theorem dX5_isAlive_1 : decode cX5_isAlive 1 = .ok (.ifCond .lt 24, 3) := by decide +kernel
theorem dX5_isAlive_4 : decode cX5_isAlive 4 = .ok (.iload_n 1, 1) := by decide +kernel
theorem dX5_isAlive_5 : decode cX5_isAlive 5 = .ok (.aload_n 0, 1) := by decide +kernel
theorem dX5_isAlive_6 : decode cX5_isAlive 6 = .ok (.getfield 57, 3) := by decide +kernel
theorem dX5_isAlive_9 : decode cX5_isAlive 9 = .ok (.if_icmp .ge 16, 3) := by decide +kernel
theorem dX5_isAlive_12 : decode cX5_isAlive 12 = .ok (.aload_n 0, 1) := by decide +kernel
theorem dX5_isAlive_13 : decode cX5_isAlive 13 = .ok (.getfield 19, 3) := by decide +kernel
theorem dX5_isAlive_16 : decode cX5_isAlive 16 = .ok (.iload_n 1, 1) := by decide +kernel
theorem dX5_isAlive_17 : decode cX5_isAlive 17 = .ok (.iaload, 1) := by decide +kernel
theorem dX5_isAlive_18 : decode cX5_isAlive 18 = .ok (.ifCond .lt 7, 3) := by decide +kernel
theorem dX5_isAlive_21 : decode cX5_isAlive 21 = .ok (.iconst 1, 1) := by decide +kernel
theorem dX5_isAlive_22 : decode cX5_isAlive 22 = .ok (.goto 4, 3) := by decide +kernel
theorem dX5_isAlive_25 : decode cX5_isAlive 25 = .ok (.iconst 0, 1) := by decide +kernel
theorem dX5_isAlive_26 : decode cX5_isAlive 26 = .ok (.ireturn, 1) := by decide +kernel
theorem dX5_isFloor_0 : decode cX5_isFloor 0 = .ok (.iload_n 0, 1) := by decide +kernel
theorem dX5_isFloor_1 : decode cX5_isFloor 1 = .ok (.ifCond .lt 13, 3) := by decide +kernel
theorem dX5_isFloor_4 : decode cX5_isFloor 4 = .ok (.iload_n 0, 1) := by decide +kernel
theorem dX5_isFloor_5 : decode cX5_isFloor 5 = .ok (.bipush 10, 2) := by decide +kernel
theorem dX5_isFloor_7 : decode cX5_isFloor 7 = .ok (.if_icmp .ge 7, 3) := by decide +kernel
theorem dX5_isFloor_10 : decode cX5_isFloor 10 = .ok (.iconst 1, 1) := by decide +kernel
theorem dX5_isFloor_11 : decode cX5_isFloor 11 = .ok (.goto 4, 3) := by decide +kernel
theorem dX5_isFloor_14 : decode cX5_isFloor 14 = .ok (.iconst 0, 1) := by decide +kernel
theorem dX5_isFloor_15 : decode cX5_isFloor 15 = .ok (.ireturn, 1) := by decide +kernel
theorem dX5_whoOn_0 : decode cX5_whoOn 0 = .ok (.iconst 0, 1) := by decide +kernel
theorem dX5_whoOn_1 : decode cX5_whoOn 1 = .ok (.istore_n 2, 1) := by decide +kernel
theorem dX5_whoOn_2 : decode cX5_whoOn 2 = .ok (.iload_n 2, 1) := by decide +kernel
theorem dX5_whoOn_3 : decode cX5_whoOn 3 = .ok (.aload_n 0, 1) := by decide +kernel
theorem dX5_whoOn_4 : decode cX5_whoOn 4 = .ok (.getfield 57, 3) := by decide +kernel
theorem dX5_whoOn_7 : decode cX5_whoOn 7 = .ok (.if_icmp .ge 21, 3) := by decide +kernel
theorem dX5_whoOn_10 : decode cX5_whoOn 10 = .ok (.aload_n 0, 1) := by decide +kernel
theorem dX5_whoOn_11 : decode cX5_whoOn 11 = .ok (.getfield 19, 3) := by decide +kernel
theorem dX5_whoOn_14 : decode cX5_whoOn 14 = .ok (.iload_n 2, 1) := by decide +kernel
theorem dX5_whoOn_15 : decode cX5_whoOn 15 = .ok (.iaload, 1) := by decide +kernel
theorem dX5_whoOn_16 : decode cX5_whoOn 16 = .ok (.iload_n 1, 1) := by decide +kernel
theorem dX5_whoOn_17 : decode cX5_whoOn 17 = .ok (.if_icmp .ne 5, 3) := by decide +kernel
theorem dX5_whoOn_20 : decode cX5_whoOn 20 = .ok (.iload_n 2, 1) := by decide +kernel
theorem dX5_whoOn_21 : decode cX5_whoOn 21 = .ok (.ireturn, 1) := by decide +kernel
theorem dX5_whoOn_22 : decode cX5_whoOn 22 = .ok (.iinc 2 1, 3) := by decide +kernel
theorem dX5_whoOn_25 : decode cX5_whoOn 25 = .ok (.goto (-23), 3) := by decide +kernel
theorem dX5_whoOn_28 : decode cX5_whoOn 28 = .ok (.bipush (-9), 2) := by decide +kernel
theorem dX5_whoOn_30 : decode cX5_whoOn 30 = .ok (.ireturn, 1) := by decide +kernel
theorem dX5_aliveBits_0 : decode cX5_aliveBits 0 = .ok (.iconst 0, 1) := by decide +kernel
theorem dX5_aliveBits_1 : decode cX5_aliveBits 1 = .ok (.istore_n 1, 1) := by decide +kernel
theorem dX5_aliveBits_2 : decode cX5_aliveBits 2 = .ok (.iconst 0, 1) := by decide +kernel
theorem dX5_aliveBits_3 : decode cX5_aliveBits 3 = .ok (.istore_n 2, 1) := by decide +kernel
theorem dX5_aliveBits_4 : decode cX5_aliveBits 4 = .ok (.iload_n 2, 1) := by decide +kernel
theorem dX5_aliveBits_5 : decode cX5_aliveBits 5 = .ok (.aload_n 0, 1) := by decide +kernel
theorem dX5_aliveBits_6 : decode cX5_aliveBits 6 = .ok (.getfield 57, 3) := by decide +kernel
theorem dX5_aliveBits_9 : decode cX5_aliveBits 9 = .ok (.if_icmp .ge 28, 3) := by decide +kernel
theorem dX5_aliveBits_12 : decode cX5_aliveBits 12 = .ok (.iload_n 1, 1) := by decide +kernel
theorem dX5_aliveBits_13 : decode cX5_aliveBits 13 = .ok (.aload_n 0, 1) := by decide +kernel
theorem dX5_aliveBits_14 : decode cX5_aliveBits 14 = .ok (.getfield 19, 3) := by decide +kernel
theorem dX5_aliveBits_17 : decode cX5_aliveBits 17 = .ok (.iload_n 2, 1) := by decide +kernel
theorem dX5_aliveBits_18 : decode cX5_aliveBits 18 = .ok (.iaload, 1) := by decide +kernel
theorem dX5_aliveBits_19 : decode cX5_aliveBits 19 = .ok (.ifCond .lt 9, 3) := by decide +kernel
theorem dX5_aliveBits_22 : decode cX5_aliveBits 22 = .ok (.iconst 1, 1) := by decide +kernel
theorem dX5_aliveBits_23 : decode cX5_aliveBits 23 = .ok (.iload_n 2, 1) := by decide +kernel
theorem dX5_aliveBits_24 : decode cX5_aliveBits 24 = .ok (.ishl, 1) := by decide +kernel
theorem dX5_aliveBits_25 : decode cX5_aliveBits 25 = .ok (.goto 4, 3) := by decide +kernel
theorem dX5_aliveBits_28 : decode cX5_aliveBits 28 = .ok (.iconst 0, 1) := by decide +kernel
theorem dX5_aliveBits_29 : decode cX5_aliveBits 29 = .ok (.ior, 1) := by decide +kernel
theorem dX5_aliveBits_30 : decode cX5_aliveBits 30 = .ok (.istore_n 1, 1) := by decide +kernel
theorem dX5_aliveBits_31 : decode cX5_aliveBits 31 = .ok (.iinc 2 1, 3) := by decide +kernel
theorem dX5_aliveBits_34 : decode cX5_aliveBits 34 = .ok (.goto (-30), 3) := by decide +kernel
theorem dX5_aliveBits_37 : decode cX5_aliveBits 37 = .ok (.iload_n 1, 1) := by decide +kernel
theorem dX5_aliveBits_38 : decode cX5_aliveBits 38 = .ok (.ireturn, 1) := by decide +kernel
theorem dX5_bits_0 : decode cX5_bits 0 = .ok (.iconst 0, 1) := by decide +kernel
theorem dX5_bits_1 : decode cX5_bits 1 = .ok (.istore_n 1, 1) := by decide +kernel
theorem dX5_bits_2 : decode cX5_bits 2 = .ok (.iconst 0, 1) := by decide +kernel
theorem dX5_bits_3 : decode cX5_bits 3 = .ok (.istore_n 2, 1) := by decide +kernel
theorem dX5_bits_4 : decode cX5_bits 4 = .ok (.iload_n 2, 1) := by decide +kernel
theorem dX5_bits_5 : decode cX5_bits 5 = .ok (.bipush 31, 2) := by decide +kernel
theorem dX5_bits_7 : decode cX5_bits 7 = .ok (.if_icmp .ge 17, 3) := by decide +kernel
theorem dX5_bits_10 : decode cX5_bits 10 = .ok (.iload_n 1, 1) := by decide +kernel
theorem dX5_bits_11 : decode cX5_bits 11 = .ok (.iload_n 0, 1) := by decide +kernel
theorem dX5_bits_12 : decode cX5_bits 12 = .ok (.iload_n 2, 1) := by decide +kernel
theorem dX5_bits_13 : decode cX5_bits 13 = .ok (.ishr, 1) := by decide +kernel
theorem dX5_bits_14 : decode cX5_bits 14 = .ok (.iconst 1, 1) := by decide +kernel
theorem dX5_bits_15 : decode cX5_bits 15 = .ok (.iand, 1) := by decide +kernel
theorem dX5_bits_16 : decode cX5_bits 16 = .ok (.iadd, 1) := by decide +kernel
theorem dX5_bits_17 : decode cX5_bits 17 = .ok (.istore_n 1, 1) := by decide +kernel
theorem dX5_bits_18 : decode cX5_bits 18 = .ok (.iinc 2 1, 3) := by decide +kernel
theorem dX5_bits_21 : decode cX5_bits 21 = .ok (.goto (-17), 3) := by decide +kernel
theorem dX5_bits_24 : decode cX5_bits 24 = .ok (.iload_n 1, 1) := by decide +kernel
theorem dX5_bits_25 : decode cX5_bits 25 = .ok (.ireturn, 1) := by decide +kernel
set_option maxRecDepth 20000 in
theorem ggX5_letter_X5_bound : GoodIn wsX5_letter wsX5_bound := goodIn_r _ [6] (by decide +kernel) (by decide +kernel)
set_option maxRecDepth 20000 in
theorem gX5_letter_X5_bound : GoodIn wsX5_letter (va_wsS RX5 61 yX5_bound wsX5_bound) := goodIn_app (goodIn_of _ (by decide +kernel)) ggX5_letter_X5_bound
set_option maxRecDepth 20000 in
theorem ggX5_letter_X5_no : GoodIn wsX5_letter wsX5_no := goodIn_r _ [10, 11, 12, 13, 14, 15, 16, 17, 18, 19, 20, 21, 22, 23, 24, 25, 26, 27, 28, 29, 30, 31, 32, 33, 34, 35] (by decide +kernel) (by decide +kernel)
set_option maxRecDepth 20000 in
theorem gX5_letter_X5_no : GoodIn wsX5_letter (wsV RX5 68 RX5 yX5_no wsX5_no) := goodIn_app (goodIn_of _ (by decide +kernel)) ggX5_letter_X5_no
theorem dX5_letter_0 : decode cX5_letter 0 = .ok (.iload_n 1, 1) := by decide +kernel
theorem dX5_letter_1 : decode cX5_letter 1 = .ok (.iconst 0, 1) := by decide +kernel
theorem dX5_letter_2 : decode cX5_letter 2 = .ok (.sipush 255, 3) := by decide +kernel
theorem dX5_letter_5 : decode cX5_letter 5 = .ok (.invokestatic 61, 3) := by decide +kernel
theorem dX5_letter_8 : decode cX5_letter 8 = .ok (.istore_n 2, 1) := by decide +kernel
theorem dX5_letter_9 : decode cX5_letter 9 = .ok (.iload_n 2, 1) := by decide +kernel
theorem dX5_letter_10 : decode cX5_letter 10 = .ok (.ifCond .ne 15, 3) := by decide +kernel
theorem dX5_letter_13 : decode cX5_letter 13 = .ok (.aload_n 0, 1) := by decide +kernel
theorem dX5_letter_14 : decode cX5_letter 14 = .ok (.getfield 65, 3) := by decide +kernel
theorem dX5_letter_17 : decode cX5_letter 17 = .ok (.bipush 80, 2) := by decide +kernel
theorem dX5_letter_19 : decode cX5_letter 19 = .ok (.if_icmp .ne 6, 3) := by decide +kernel
theorem dX5_letter_22 : decode cX5_letter 22 = .ok (.bipush (-6), 2) := by decide +kernel
theorem dX5_letter_24 : decode cX5_letter 24 = .ok (.istore_n 2, 1) := by decide +kernel
theorem dX5_letter_25 : decode cX5_letter 25 = .ok (.iload_n 2, 1) := by decide +kernel
theorem dX5_letter_26 : decode cX5_letter 26 = .ok (.ifCond .eq 9, 3) := by decide +kernel
theorem dX5_letter_29 : decode cX5_letter 29 = .ok (.aload_n 0, 1) := by decide +kernel
theorem dX5_letter_30 : decode cX5_letter 30 = .ok (.iload_n 2, 1) := by decide +kernel
theorem dX5_letter_31 : decode cX5_letter 31 = .ok (.invokevirtual 68, 3) := by decide +kernel
theorem dX5_letter_34 : decode cX5_letter 34 = .ok (.ireturn, 1) := by decide +kernel
theorem dX5_letter_35 : decode cX5_letter 35 = .ok (.aload_n 0, 1) := by decide +kernel
theorem dX5_letter_36 : decode cX5_letter 36 = .ok (.getfield 28, 3) := by decide +kernel
theorem dX5_letter_39 : decode cX5_letter 39 = .ok (.aload_n 0, 1) := by decide +kernel
theorem dX5_letter_40 : decode cX5_letter 40 = .ok (.getfield 65, 3) := by decide +kernel
theorem dX5_letter_43 : decode cX5_letter 43 = .ok (.iload_n 1, 1) := by decide +kernel
theorem dX5_letter_44 : decode cX5_letter 44 = .ok (.iastore, 1) := by decide +kernel
theorem dX5_letter_45 : decode cX5_letter 45 = .ok (.aload_n 0, 1) := by decide +kernel
theorem dX5_letter_46 : decode cX5_letter 46 = .ok (.dup, 1) := by decide +kernel
theorem dX5_letter_47 : decode cX5_letter 47 = .ok (.getfield 65, 3) := by decide +kernel
theorem dX5_letter_50 : decode cX5_letter 50 = .ok (.iconst 1, 1) := by decide +kernel
theorem dX5_letter_51 : decode cX5_letter 51 = .ok (.iadd, 1) := by decide +kernel
theorem dX5_letter_52 : decode cX5_letter 52 = .ok (.putfield 65, 3) := by decide +kernel
theorem dX5_letter_55 : decode cX5_letter 55 = .ok (.aload_n 0, 1) := by decide +kernel
theorem dX5_letter_56 : decode cX5_letter 56 = .ok (.getfield 65, 3) := by decide +kernel
theorem dX5_letter_59 : decode cX5_letter 59 = .ok (.ireturn, 1) := by decide +kernel
theorem dX5_next_0 : decode cX5_next 0 = .ok (.aload_n 0, 1) := by decide +kernel
theorem dX5_next_1 : decode cX5_next 1 = .ok (.getfield 72, 3) := by decide +kernel
theorem dX5_next_4 : decode cX5_next 4 = .ok (.aload_n 0, 1) := by decide +kernel
theorem dX5_next_5 : decode cX5_next 5 = .ok (.getfield 65, 3) := by decide +kernel
theorem dX5_next_8 : decode cX5_next 8 = .ok (.if_icmp .ge 15, 3) := by decide +kernel
theorem dX5_next_11 : decode cX5_next 11 = .ok (.aload_n 0, 1) := by decide +kernel
theorem dX5_next_12 : decode cX5_next 12 = .ok (.getfield 28, 3) := by decide +kernel
theorem dX5_next_15 : decode cX5_next 15 = .ok (.aload_n 0, 1) := by decide +kernel
theorem dX5_next_16 : decode cX5_next 16 = .ok (.getfield 72, 3) := by decide +kernel
theorem dX5_next_19 : decode cX5_next 19 = .ok (.iaload, 1) := by decide +kernel
theorem dX5_next_20 : decode cX5_next 20 = .ok (.goto 4, 3) := by decide +kernel
theorem dX5_next_23 : decode cX5_next 23 = .ok (.iconst (-1), 1) := by decide +kernel
theorem dX5_next_24 : decode cX5_next 24 = .ok (.ireturn, 1) := by decide +kernel
set_option maxRecDepth 20000 in
theorem ggX5_isDigit_X5_next : GoodIn wsX5_isDigit wsX5_next := goodIn_r _ [5, 6, 7, 8, 12, 13, 14, 15, 16, 17, 18, 19, 20, 21, 22, 23, 24, 25, 26, 27, 28, 29, 30, 31, 32, 33, 34, 35] (by decide +kernel) (by decide +kernel)
set_option maxRecDepth 20000 in
theorem gX5_isDigit_X5_next : GoodIn wsX5_isDigit (wsV RX5 75 RX5 yX5_next wsX5_next) := goodIn_app (goodIn_of _ (by decide +kernel)) ggX5_isDigit_X5_next
set_option maxRecDepth 20000 in
theorem ggX5_isDigit_X5_isIn : GoodIn wsX5_isDigit wsX5_isIn := goodIn_r _ [11] (by decide +kernel) (by decide +kernel)
set_option maxRecDepth 20000 in
theorem gX5_isDigit_X5_isIn : GoodIn wsX5_isDigit (va_wsS RX5 79 yX5_isIn wsX5_isIn) := goodIn_app (goodIn_of _ (by decide +kernel)) ggX5_isDigit_X5_isIn
theorem dX5_isDigit_0 : decode cX5_isDigit 0 = .ok (.aload_n 0, 1) := by decide +kernel
theorem dX5_isDigit_1 : decode cX5_isDigit 1 = .ok (.invokevirtual 75, 3) := by decide +kernel
theorem dX5_isDigit_4 : decode cX5_isDigit 4 = .ok (.bipush 48, 2) := by decide +kernel
theorem dX5_isDigit_6 : decode cX5_isDigit 6 = .ok (.bipush 57, 2) := by decide +kernel
theorem dX5_isDigit_8 : decode cX5_isDigit 8 = .ok (.invokestatic 79, 3) := by decide +kernel
theorem dX5_isDigit_11 : decode cX5_isDigit 11 = .ok (.ireturn, 1) := by decide +kernel
set_option maxRecDepth 20000 in
theorem ggX5_readsNumber_X5_isDigit : GoodIn wsX5_readsNumber wsX5_isDigit := goodIn_r _ [7, 8, 9, 10, 6, 11, 1, 12, 13, 14, 15, 16, 17, 18, 19, 20, 21, 22, 23, 24, 25, 26, 27, 28, 29, 30, 31, 32, 33, 34, 35, 36, 37, 38, 39, 40] (by decide +kernel) (by decide +kernel)
set_option maxRecDepth 20000 in
theorem gX5_readsNumber_X5_isDigit : GoodIn wsX5_readsNumber (wsV RX5 83 RX5 yX5_isDigit wsX5_isDigit) := goodIn_app (goodIn_of _ (by decide +kernel)) ggX5_readsNumber_X5_isDigit
set_option maxRecDepth 20000 in
theorem ggX5_readsNumber_X5_next : GoodIn wsX5_readsNumber wsX5_next := goodIn_r _ [11, 1, 12, 13, 17, 18, 19, 20, 21, 22, 23, 24, 25, 26, 27, 28, 29, 30, 31, 32, 33, 34, 35, 36, 37, 38, 39, 40] (by decide +kernel) (by decide +kernel)
set_option maxRecDepth 20000 in
theorem gX5_readsNumber_X5_next : GoodIn wsX5_readsNumber (wsV RX5 75 RX5 yX5_next wsX5_next) := goodIn_app (goodIn_of _ (by decide +kernel)) ggX5_readsNumber_X5_next
theorem dX5_readsNumber_0 : decode cX5_readsNumber 0 = .ok (.aload_n 0, 1) := by decide +kernel
theorem dX5_readsNumber_1 : decode cX5_readsNumber 1 = .ok (.invokevirtual 83, 3) := by decide +kernel
theorem dX5_readsNumber_4 : decode cX5_readsNumber 4 = .ok (.ifCond .ne 5, 3) := by decide +kernel
theorem dX5_readsNumber_7 : decode cX5_readsNumber 7 = .ok (.iconst 0, 1) := by decide +kernel
theorem dX5_readsNumber_8 : decode cX5_readsNumber 8 = .ok (.ireturn, 1) := by decide +kernel
theorem dX5_readsNumber_9 : decode cX5_readsNumber 9 = .ok (.iconst 0, 1) := by decide +kernel
theorem dX5_readsNumber_10 : decode cX5_readsNumber 10 = .ok (.istore_n 3, 1) := by decide +kernel
theorem dX5_readsNumber_11 : decode cX5_readsNumber 11 = .ok (.iconst 0, 1) := by decide +kernel
theorem dX5_readsNumber_12 : decode cX5_readsNumber 12 = .ok (.istore 4, 2) := by decide +kernel
theorem dX5_readsNumber_14 : decode cX5_readsNumber 14 = .ok (.iload 4, 2) := by decide +kernel
theorem dX5_readsNumber_16 : decode cX5_readsNumber 16 = .ok (.iload_n 2, 1) := by decide +kernel
theorem dX5_readsNumber_17 : decode cX5_readsNumber 17 = .ok (.if_icmp .ge 39, 3) := by decide +kernel
theorem dX5_readsNumber_20 : decode cX5_readsNumber 20 = .ok (.aload_n 0, 1) := by decide +kernel
theorem dX5_readsNumber_21 : decode cX5_readsNumber 21 = .ok (.invokevirtual 83, 3) := by decide +kernel
theorem dX5_readsNumber_24 : decode cX5_readsNumber 24 = .ok (.ifCond .eq 32, 3) := by decide +kernel
theorem dX5_readsNumber_27 : decode cX5_readsNumber 27 = .ok (.bipush 10, 2) := by decide +kernel
theorem dX5_readsNumber_29 : decode cX5_readsNumber 29 = .ok (.iload_n 3, 1) := by decide +kernel
theorem dX5_readsNumber_30 : decode cX5_readsNumber 30 = .ok (.imul, 1) := by decide +kernel
theorem dX5_readsNumber_31 : decode cX5_readsNumber 31 = .ok (.aload_n 0, 1) := by decide +kernel
theorem dX5_readsNumber_32 : decode cX5_readsNumber 32 = .ok (.invokevirtual 75, 3) := by decide +kernel
theorem dX5_readsNumber_35 : decode cX5_readsNumber 35 = .ok (.iadd, 1) := by decide +kernel
theorem dX5_readsNumber_36 : decode cX5_readsNumber 36 = .ok (.bipush 48, 2) := by decide +kernel
theorem dX5_readsNumber_38 : decode cX5_readsNumber 38 = .ok (.isub, 1) := by decide +kernel
theorem dX5_readsNumber_39 : decode cX5_readsNumber 39 = .ok (.istore_n 3, 1) := by decide +kernel
theorem dX5_readsNumber_40 : decode cX5_readsNumber 40 = .ok (.aload_n 0, 1) := by decide +kernel
theorem dX5_readsNumber_41 : decode cX5_readsNumber 41 = .ok (.dup, 1) := by decide +kernel
theorem dX5_readsNumber_42 : decode cX5_readsNumber 42 = .ok (.getfield 72, 3) := by decide +kernel
theorem dX5_readsNumber_45 : decode cX5_readsNumber 45 = .ok (.iconst 1, 1) := by decide +kernel
theorem dX5_readsNumber_46 : decode cX5_readsNumber 46 = .ok (.iadd, 1) := by decide +kernel
theorem dX5_readsNumber_47 : decode cX5_readsNumber 47 = .ok (.putfield 72, 3) := by decide +kernel
theorem dX5_readsNumber_50 : decode cX5_readsNumber 50 = .ok (.iinc 4 1, 3) := by decide +kernel
theorem dX5_readsNumber_53 : decode cX5_readsNumber 53 = .ok (.goto (-39), 3) := by decide +kernel
theorem dX5_readsNumber_56 : decode cX5_readsNumber 56 = .ok (.aload_n 0, 1) := by decide +kernel
theorem dX5_readsNumber_57 : decode cX5_readsNumber 57 = .ok (.getfield 37, 3) := by decide +kernel
theorem dX5_readsNumber_60 : decode cX5_readsNumber 60 = .ok (.iload_n 1, 1) := by decide +kernel
theorem dX5_readsNumber_61 : decode cX5_readsNumber 61 = .ok (.iload_n 3, 1) := by decide +kernel
theorem dX5_readsNumber_62 : decode cX5_readsNumber 62 = .ok (.iastore, 1) := by decide +kernel
theorem dX5_readsNumber_63 : decode cX5_readsNumber 63 = .ok (.iconst 1, 1) := by decide +kernel
theorem dX5_readsNumber_64 : decode cX5_readsNumber 64 = .ok (.ireturn, 1) := by decide +kernel
theorem dX5_kindOf_0 : decode cX5_kindOf 0 = .ok (.iload_n 0, 1) := by decide +kernel
theorem dX5_kindOf_1 : decode cX5_kindOf 1 = .ok (.lookupswitch 71 #[(99, 65), (100, 67), (105, 63), (108, 59), (115, 61), (121, 69)], 59) := by decide +kernel
theorem dX5_kindOf_60 : decode cX5_kindOf 60 = .ok (.iconst 0, 1) := by decide +kernel
theorem dX5_kindOf_61 : decode cX5_kindOf 61 = .ok (.ireturn, 1) := by decide +kernel
theorem dX5_kindOf_62 : decode cX5_kindOf 62 = .ok (.iconst 1, 1) := by decide +kernel
theorem dX5_kindOf_63 : decode cX5_kindOf 63 = .ok (.ireturn, 1) := by decide +kernel
theorem dX5_kindOf_64 : decode cX5_kindOf 64 = .ok (.iconst 2, 1) := by decide +kernel
theorem dX5_kindOf_65 : decode cX5_kindOf 65 = .ok (.ireturn, 1) := by decide +kernel
theorem dX5_kindOf_66 : decode cX5_kindOf 66 = .ok (.iconst 3, 1) := by decide +kernel
theorem dX5_kindOf_67 : decode cX5_kindOf 67 = .ok (.ireturn, 1) := by decide +kernel
theorem dX5_kindOf_68 : decode cX5_kindOf 68 = .ok (.iconst 4, 1) := by decide +kernel
theorem dX5_kindOf_69 : decode cX5_kindOf 69 = .ok (.ireturn, 1) := by decide +kernel
theorem dX5_kindOf_70 : decode cX5_kindOf 70 = .ok (.iconst 5, 1) := by decide +kernel
theorem dX5_kindOf_71 : decode cX5_kindOf 71 = .ok (.ireturn, 1) := by decide +kernel
theorem dX5_kindOf_72 : decode cX5_kindOf 72 = .ok (.iconst (-1), 1) := by decide +kernel
theorem dX5_kindOf_73 : decode cX5_kindOf 73 = .ok (.ireturn, 1) := by decide +kernel
set_option maxRecDepth 20000 in
theorem ggX5_readsLodger_X5_next : GoodIn wsX5_readsLodger wsX5_next := goodIn_r _ [7, 2, 8, 9, 24, 25, 26, 27, 28, 29, 30, 31, 32, 33, 34, 35, 36, 37, 38, 39, 40, 41, 42, 43, 44, 45, 46, 47] (by decide +kernel) (by decide +kernel)
set_option maxRecDepth 20000 in
theorem gX5_readsLodger_X5_next : GoodIn wsX5_readsLodger (wsV RX5 75 RX5 yX5_next wsX5_next) := goodIn_app (goodIn_of _ (by decide +kernel)) ggX5_readsLodger_X5_next
set_option maxRecDepth 20000 in
theorem ggX5_readsLodger_X5_kindOf : GoodIn wsX5_readsLodger wsX5_kindOf := goodIn_r _ [12] (by decide +kernel) (by decide +kernel)
set_option maxRecDepth 20000 in
theorem gX5_readsLodger_X5_kindOf : GoodIn wsX5_readsLodger (va_wsS RX5 87 yX5_kindOf wsX5_kindOf) := goodIn_app (goodIn_of _ (by decide +kernel)) ggX5_readsLodger_X5_kindOf
set_option maxRecDepth 20000 in
theorem ggX5_readsLodger_X5_readsNumber : GoodIn wsX5_readsLodger wsX5_readsNumber := goodIn_r _ [16, 2, 1, 17, 18, 19, 6, 20, 3, 4, 5, 7, 8, 9, 21, 22, 23, 24, 25, 26, 27, 28, 29, 30, 31, 32, 33, 34, 35, 36, 37, 38, 39, 40, 41, 42, 43, 44, 45, 46, 47] (by decide +kernel) (by decide +kernel)
set_option maxRecDepth 20000 in
theorem gX5_readsLodger_X5_readsNumber : GoodIn wsX5_readsLodger (wsV RX5 90 RX5 yX5_readsNumber wsX5_readsNumber) := goodIn_app (goodIn_of _ (by decide +kernel)) ggX5_readsLodger_X5_readsNumber
theorem dX5_readsLodger_0 : decode cX5_readsLodger 0 = .ok (.aload_n 0, 1) := by decide +kernel
theorem dX5_readsLodger_1 : decode cX5_readsLodger 1 = .ok (.getfield 37, 3) := by decide +kernel
theorem dX5_readsLodger_4 : decode cX5_readsLodger 4 = .ok (.iload_n 1, 1) := by decide +kernel
theorem dX5_readsLodger_5 : decode cX5_readsLodger 5 = .ok (.aload_n 0, 1) := by decide +kernel
theorem dX5_readsLodger_6 : decode cX5_readsLodger 6 = .ok (.invokevirtual 75, 3) := by decide +kernel
theorem dX5_readsLodger_9 : decode cX5_readsLodger 9 = .ok (.invokestatic 87, 3) := by decide +kernel
theorem dX5_readsLodger_12 : decode cX5_readsLodger 12 = .ok (.iastore, 1) := by decide +kernel
theorem dX5_readsLodger_13 : decode cX5_readsLodger 13 = .ok (.aload_n 0, 1) := by decide +kernel
theorem dX5_readsLodger_14 : decode cX5_readsLodger 14 = .ok (.getfield 37, 3) := by decide +kernel
theorem dX5_readsLodger_17 : decode cX5_readsLodger 17 = .ok (.iload_n 1, 1) := by decide +kernel
theorem dX5_readsLodger_18 : decode cX5_readsLodger 18 = .ok (.iaload, 1) := by decide +kernel
theorem dX5_readsLodger_19 : decode cX5_readsLodger 19 = .ok (.ifCond .ge 5, 3) := by decide +kernel
theorem dX5_readsLodger_22 : decode cX5_readsLodger 22 = .ok (.iconst 0, 1) := by decide +kernel
theorem dX5_readsLodger_23 : decode cX5_readsLodger 23 = .ok (.ireturn, 1) := by decide +kernel
theorem dX5_readsLodger_24 : decode cX5_readsLodger 24 = .ok (.aload_n 0, 1) := by decide +kernel
theorem dX5_readsLodger_25 : decode cX5_readsLodger 25 = .ok (.dup, 1) := by decide +kernel
theorem dX5_readsLodger_26 : decode cX5_readsLodger 26 = .ok (.getfield 72, 3) := by decide +kernel
theorem dX5_readsLodger_29 : decode cX5_readsLodger 29 = .ok (.iconst 1, 1) := by decide +kernel
theorem dX5_readsLodger_30 : decode cX5_readsLodger 30 = .ok (.iadd, 1) := by decide +kernel
theorem dX5_readsLodger_31 : decode cX5_readsLodger 31 = .ok (.putfield 72, 3) := by decide +kernel
theorem dX5_readsLodger_34 : decode cX5_readsLodger 34 = .ok (.aload_n 0, 1) := by decide +kernel
theorem dX5_readsLodger_35 : decode cX5_readsLodger 35 = .ok (.iload_n 1, 1) := by decide +kernel
theorem dX5_readsLodger_36 : decode cX5_readsLodger 36 = .ok (.iconst 1, 1) := by decide +kernel
theorem dX5_readsLodger_37 : decode cX5_readsLodger 37 = .ok (.iadd, 1) := by decide +kernel
theorem dX5_readsLodger_38 : decode cX5_readsLodger 38 = .ok (.iconst 2, 1) := by decide +kernel
theorem dX5_readsLodger_39 : decode cX5_readsLodger 39 = .ok (.invokevirtual 90, 3) := by decide +kernel
theorem dX5_readsLodger_42 : decode cX5_readsLodger 42 = .ok (.ifCond .eq 12, 3) := by decide +kernel
theorem dX5_readsLodger_45 : decode cX5_readsLodger 45 = .ok (.aload_n 0, 1) := by decide +kernel
theorem dX5_readsLodger_46 : decode cX5_readsLodger 46 = .ok (.invokevirtual 75, 3) := by decide +kernel
theorem dX5_readsLodger_49 : decode cX5_readsLodger 49 = .ok (.bipush 44, 2) := by decide +kernel
theorem dX5_readsLodger_51 : decode cX5_readsLodger 51 = .ok (.if_icmp .eq 5, 3) := by decide +kernel
theorem dX5_readsLodger_54 : decode cX5_readsLodger 54 = .ok (.iconst 0, 1) := by decide +kernel
theorem dX5_readsLodger_55 : decode cX5_readsLodger 55 = .ok (.ireturn, 1) := by decide +kernel
theorem dX5_readsLodger_56 : decode cX5_readsLodger 56 = .ok (.aload_n 0, 1) := by decide +kernel
theorem dX5_readsLodger_57 : decode cX5_readsLodger 57 = .ok (.dup, 1) := by decide +kernel
theorem dX5_readsLodger_58 : decode cX5_readsLodger 58 = .ok (.getfield 72, 3) := by decide +kernel
theorem dX5_readsLodger_61 : decode cX5_readsLodger 61 = .ok (.iconst 1, 1) := by decide +kernel
theorem dX5_readsLodger_62 : decode cX5_readsLodger 62 = .ok (.iadd, 1) := by decide +kernel
theorem dX5_readsLodger_63 : decode cX5_readsLodger 63 = .ok (.putfield 72, 3) := by decide +kernel
theorem dX5_readsLodger_66 : decode cX5_readsLodger 66 = .ok (.aload_n 0, 1) := by decide +kernel
theorem dX5_readsLodger_67 : decode cX5_readsLodger 67 = .ok (.iload_n 1, 1) := by decide +kernel
theorem dX5_readsLodger_68 : decode cX5_readsLodger 68 = .ok (.iconst 2, 1) := by decide +kernel
theorem dX5_readsLodger_69 : decode cX5_readsLodger 69 = .ok (.iadd, 1) := by decide +kernel
theorem dX5_readsLodger_70 : decode cX5_readsLodger 70 = .ok (.iconst 1, 1) := by decide +kernel
theorem dX5_readsLodger_71 : decode cX5_readsLodger 71 = .ok (.invokevirtual 90, 3) := by decide +kernel
theorem dX5_readsLodger_74 : decode cX5_readsLodger 74 = .ok (.ireturn, 1) := by decide +kernel
set_option maxRecDepth 20000 in
theorem ggX5_readsDeaths_X5_isDigit : GoodIn wsX5_readsDeaths wsX5_isDigit := goodIn_r _ [9, 10, 11, 12, 8, 13, 3, 14, 15, 16, 17, 18, 19, 20, 21, 22, 23, 24, 25, 26, 27, 28, 29, 30, 31, 32, 33, 34, 35, 36, 37, 38, 39, 40, 41, 42] (by decide +kernel) (by decide +kernel)
set_option maxRecDepth 20000 in
theorem gX5_readsDeaths_X5_isDigit : GoodIn wsX5_readsDeaths (wsV RX5 83 RX5 yX5_isDigit wsX5_isDigit) := goodIn_app (goodIn_of _ (by decide +kernel)) ggX5_readsDeaths_X5_isDigit
theorem dX5_readsDeaths_0 : decode cX5_readsDeaths 0 = .ok (.aload_n 0, 1) := by decide +kernel
theorem dX5_readsDeaths_1 : decode cX5_readsDeaths 1 = .ok (.getfield 40, 3) := by decide +kernel
theorem dX5_readsDeaths_4 : decode cX5_readsDeaths 4 = .ok (.aload_n 0, 1) := by decide +kernel
theorem dX5_readsDeaths_5 : decode cX5_readsDeaths 5 = .ok (.getfield 94, 3) := by decide +kernel
theorem dX5_readsDeaths_8 : decode cX5_readsDeaths 8 = .ok (.aload_n 0, 1) := by decide +kernel
theorem dX5_readsDeaths_9 : decode cX5_readsDeaths 9 = .ok (.getfield 72, 3) := by decide +kernel
theorem dX5_readsDeaths_12 : decode cX5_readsDeaths 12 = .ok (.iastore, 1) := by decide +kernel
theorem dX5_readsDeaths_13 : decode cX5_readsDeaths 13 = .ok (.aload_n 0, 1) := by decide +kernel
theorem dX5_readsDeaths_14 : decode cX5_readsDeaths 14 = .ok (.getfield 72, 3) := by decide +kernel
theorem dX5_readsDeaths_17 : decode cX5_readsDeaths 17 = .ok (.aload_n 0, 1) := by decide +kernel
theorem dX5_readsDeaths_18 : decode cX5_readsDeaths 18 = .ok (.getfield 40, 3) := by decide +kernel
theorem dX5_readsDeaths_21 : decode cX5_readsDeaths 21 = .ok (.aload_n 0, 1) := by decide +kernel
theorem dX5_readsDeaths_22 : decode cX5_readsDeaths 22 = .ok (.getfield 94, 3) := by decide +kernel
theorem dX5_readsDeaths_25 : decode cX5_readsDeaths 25 = .ok (.iaload, 1) := by decide +kernel
theorem dX5_readsDeaths_26 : decode cX5_readsDeaths 26 = .ok (.isub, 1) := by decide +kernel
theorem dX5_readsDeaths_27 : decode cX5_readsDeaths 27 = .ok (.bipush 8, 2) := by decide +kernel
theorem dX5_readsDeaths_29 : decode cX5_readsDeaths 29 = .ok (.if_icmp .ge 23, 3) := by decide +kernel
theorem dX5_readsDeaths_32 : decode cX5_readsDeaths 32 = .ok (.aload_n 0, 1) := by decide +kernel
theorem dX5_readsDeaths_33 : decode cX5_readsDeaths 33 = .ok (.invokevirtual 83, 3) := by decide +kernel
theorem dX5_readsDeaths_36 : decode cX5_readsDeaths 36 = .ok (.ifCond .eq 16, 3) := by decide +kernel
theorem dX5_readsDeaths_39 : decode cX5_readsDeaths 39 = .ok (.aload_n 0, 1) := by decide +kernel
theorem dX5_readsDeaths_40 : decode cX5_readsDeaths 40 = .ok (.dup, 1) := by decide +kernel
theorem dX5_readsDeaths_41 : decode cX5_readsDeaths 41 = .ok (.getfield 72, 3) := by decide +kernel
theorem dX5_readsDeaths_44 : decode cX5_readsDeaths 44 = .ok (.iconst 1, 1) := by decide +kernel
theorem dX5_readsDeaths_45 : decode cX5_readsDeaths 45 = .ok (.iadd, 1) := by decide +kernel
theorem dX5_readsDeaths_46 : decode cX5_readsDeaths 46 = .ok (.putfield 72, 3) := by decide +kernel
theorem dX5_readsDeaths_49 : decode cX5_readsDeaths 49 = .ok (.goto (-36), 3) := by decide +kernel
theorem dX5_readsDeaths_52 : decode cX5_readsDeaths 52 = .ok (.aload_n 0, 1) := by decide +kernel
theorem dX5_readsDeaths_53 : decode cX5_readsDeaths 53 = .ok (.getfield 43, 3) := by decide +kernel
theorem dX5_readsDeaths_56 : decode cX5_readsDeaths 56 = .ok (.aload_n 0, 1) := by decide +kernel
theorem dX5_readsDeaths_57 : decode cX5_readsDeaths 57 = .ok (.getfield 94, 3) := by decide +kernel
theorem dX5_readsDeaths_60 : decode cX5_readsDeaths 60 = .ok (.aload_n 0, 1) := by decide +kernel
theorem dX5_readsDeaths_61 : decode cX5_readsDeaths 61 = .ok (.getfield 72, 3) := by decide +kernel
theorem dX5_readsDeaths_64 : decode cX5_readsDeaths 64 = .ok (.iastore, 1) := by decide +kernel
theorem dX5_readsDeaths_65 : decode cX5_readsDeaths 65 = .ok (.iconst 1, 1) := by decide +kernel
theorem dX5_readsDeaths_66 : decode cX5_readsDeaths 66 = .ok (.ireturn, 1) := by decide +kernel
set_option maxRecDepth 20000 in
theorem ggX5_statement_X5_next : GoodIn wsX5_statement wsX5_next := goodIn_r _ [9, 4, 10, 11, 37, 38, 39, 40, 41, 42, 43, 44, 45, 46, 47, 48, 49, 50, 51, 52, 53, 54, 55, 56, 57, 58, 59, 60] (by decide +kernel) (by decide +kernel)
set_option maxRecDepth 20000 in
theorem gX5_statement_X5_next : GoodIn wsX5_statement (wsV RX5 75 RX5 yX5_next wsX5_next) := goodIn_app (goodIn_of _ (by decide +kernel)) ggX5_statement_X5_next
set_option maxRecDepth 20000 in
theorem ggX5_statement_X5_readsLodger : GoodIn wsX5_statement wsX5_readsLodger := goodIn_r _ [15, 16, 4, 5, 6, 7, 8, 9, 10, 11, 17, 18, 19, 20, 21, 22, 23, 24, 25, 26, 27, 28, 29, 30, 37, 38, 39, 40, 41, 42, 43, 44, 45, 46, 47, 48, 49, 50, 51, 52, 53, 54, 55, 56, 57, 58, 59, 60] (by decide +kernel) (by decide +kernel)
set_option maxRecDepth 20000 in
theorem gX5_statement_X5_readsLodger : GoodIn wsX5_statement (wsV RX5 97 RX5 yX5_readsLodger wsX5_readsLodger) := goodIn_app (goodIn_of _ (by decide +kernel)) ggX5_statement_X5_readsLodger
set_option maxRecDepth 20000 in
theorem ggX5_statement_X5_readsNumber : GoodIn wsX5_statement wsX5_readsNumber := goodIn_r _ [23, 4, 16, 24, 25, 26, 8, 27, 5, 6, 7, 9, 10, 11, 28, 29, 30, 37, 38, 39, 40, 41, 42, 43, 44, 45, 46, 47, 48, 49, 50, 51, 52, 53, 54, 55, 56, 57, 58, 59, 60] (by decide +kernel) (by decide +kernel)
set_option maxRecDepth 20000 in
theorem gX5_statement_X5_readsNumber : GoodIn wsX5_statement (wsV RX5 90 RX5 yX5_readsNumber wsX5_readsNumber) := goodIn_app (goodIn_of _ (by decide +kernel)) ggX5_statement_X5_readsNumber
set_option maxRecDepth 20000 in
theorem ggX5_statement_X5_readsDeaths : GoodIn wsX5_statement wsX5_readsDeaths := goodIn_r _ [34, 35, 2, 4, 36, 24, 25, 26, 8, 27, 5, 6, 7, 9, 10, 11, 28, 29, 30, 37, 38, 39, 40, 41, 42, 43, 44, 45, 46, 47, 48, 49, 50, 51, 52, 53, 54, 55, 56, 57, 58, 59, 60] (by decide +kernel) (by decide +kernel)
set_option maxRecDepth 20000 in
theorem gX5_statement_X5_readsDeaths : GoodIn wsX5_statement (wsV RX5 101 RX5 yX5_readsDeaths wsX5_readsDeaths) := goodIn_app (goodIn_of _ (by decide +kernel)) ggX5_statement_X5_readsDeaths
theorem dX5_statement_0 : decode cX5_statement 0 = .ok (.aload_n 0, 1) := by decide +kernel
theorem dX5_statement_1 : decode cX5_statement 1 = .ok (.invokevirtual 75, 3) := by decide +kernel
theorem dX5_statement_4 : decode cX5_statement 4 = .ok (.istore_n 1, 1) := by decide +kernel
theorem dX5_statement_5 : decode cX5_statement 5 = .ok (.iload_n 1, 1) := by decide +kernel
theorem dX5_statement_6 : decode cX5_statement 6 = .ok (.bipush 108, 2) := by decide +kernel
theorem dX5_statement_8 : decode cX5_statement 8 = .ok (.if_icmp .eq 17, 3) := by decide +kernel
theorem dX5_statement_11 : decode cX5_statement 11 = .ok (.iload_n 1, 1) := by decide +kernel
theorem dX5_statement_12 : decode cX5_statement 12 = .ok (.bipush 119, 2) := by decide +kernel
theorem dX5_statement_14 : decode cX5_statement 14 = .ok (.if_icmp .eq 11, 3) := by decide +kernel
theorem dX5_statement_17 : decode cX5_statement 17 = .ok (.iload_n 1, 1) := by decide +kernel
theorem dX5_statement_18 : decode cX5_statement 18 = .ok (.bipush 121, 2) := by decide +kernel
theorem dX5_statement_20 : decode cX5_statement 20 = .ok (.if_icmp .eq 5, 3) := by decide +kernel
theorem dX5_statement_23 : decode cX5_statement 23 = .ok (.iconst 0, 1) := by decide +kernel
theorem dX5_statement_24 : decode cX5_statement 24 = .ok (.ireturn, 1) := by decide +kernel
theorem dX5_statement_25 : decode cX5_statement 25 = .ok (.aload_n 0, 1) := by decide +kernel
theorem dX5_statement_26 : decode cX5_statement 26 = .ok (.getfield 31, 3) := by decide +kernel
theorem dX5_statement_29 : decode cX5_statement 29 = .ok (.aload_n 0, 1) := by decide +kernel
theorem dX5_statement_30 : decode cX5_statement 30 = .ok (.getfield 94, 3) := by decide +kernel
theorem dX5_statement_33 : decode cX5_statement 33 = .ok (.iload_n 1, 1) := by decide +kernel
theorem dX5_statement_34 : decode cX5_statement 34 = .ok (.iastore, 1) := by decide +kernel
theorem dX5_statement_35 : decode cX5_statement 35 = .ok (.aload_n 0, 1) := by decide +kernel
theorem dX5_statement_36 : decode cX5_statement 36 = .ok (.getfield 34, 3) := by decide +kernel
theorem dX5_statement_39 : decode cX5_statement 39 = .ok (.aload_n 0, 1) := by decide +kernel
theorem dX5_statement_40 : decode cX5_statement 40 = .ok (.getfield 94, 3) := by decide +kernel
theorem dX5_statement_43 : decode cX5_statement 43 = .ok (.aload_n 0, 1) := by decide +kernel
theorem dX5_statement_44 : decode cX5_statement 44 = .ok (.getfield 72, 3) := by decide +kernel
theorem dX5_statement_47 : decode cX5_statement 47 = .ok (.iastore, 1) := by decide +kernel
theorem dX5_statement_48 : decode cX5_statement 48 = .ok (.aload_n 0, 1) := by decide +kernel
theorem dX5_statement_49 : decode cX5_statement 49 = .ok (.dup, 1) := by decide +kernel
theorem dX5_statement_50 : decode cX5_statement 50 = .ok (.getfield 72, 3) := by decide +kernel
theorem dX5_statement_53 : decode cX5_statement 53 = .ok (.iconst 1, 1) := by decide +kernel
theorem dX5_statement_54 : decode cX5_statement 54 = .ok (.iadd, 1) := by decide +kernel
theorem dX5_statement_55 : decode cX5_statement 55 = .ok (.putfield 72, 3) := by decide +kernel
theorem dX5_statement_58 : decode cX5_statement 58 = .ok (.iconst 3, 1) := by decide +kernel
theorem dX5_statement_59 : decode cX5_statement 59 = .ok (.aload_n 0, 1) := by decide +kernel
theorem dX5_statement_60 : decode cX5_statement 60 = .ok (.getfield 94, 3) := by decide +kernel
theorem dX5_statement_63 : decode cX5_statement 63 = .ok (.imul, 1) := by decide +kernel
theorem dX5_statement_64 : decode cX5_statement 64 = .ok (.istore_n 2, 1) := by decide +kernel
theorem dX5_statement_65 : decode cX5_statement 65 = .ok (.iload_n 1, 1) := by decide +kernel
theorem dX5_statement_66 : decode cX5_statement 66 = .ok (.bipush 108, 2) := by decide +kernel
theorem dX5_statement_68 : decode cX5_statement 68 = .ok (.if_icmp .ne 11, 3) := by decide +kernel
theorem dX5_statement_71 : decode cX5_statement 71 = .ok (.aload_n 0, 1) := by decide +kernel
theorem dX5_statement_72 : decode cX5_statement 72 = .ok (.iload_n 2, 1) := by decide +kernel
theorem dX5_statement_73 : decode cX5_statement 73 = .ok (.invokevirtual 97, 3) := by decide +kernel
theorem dX5_statement_76 : decode cX5_statement 76 = .ok (.goto 41, 3) := by decide +kernel
theorem dX5_statement_79 : decode cX5_statement 79 = .ok (.iload_n 1, 1) := by decide +kernel
theorem dX5_statement_80 : decode cX5_statement 80 = .ok (.bipush 119, 2) := by decide +kernel
theorem dX5_statement_82 : decode cX5_statement 82 = .ok (.if_icmp .ne 31, 3) := by decide +kernel
theorem dX5_statement_85 : decode cX5_statement 85 = .ok (.aload_n 0, 1) := by decide +kernel
theorem dX5_statement_86 : decode cX5_statement 86 = .ok (.iload_n 2, 1) := by decide +kernel
theorem dX5_statement_87 : decode cX5_statement 87 = .ok (.iconst 1, 1) := by decide +kernel
theorem dX5_statement_88 : decode cX5_statement 88 = .ok (.invokevirtual 90, 3) := by decide +kernel
theorem dX5_statement_91 : decode cX5_statement 91 = .ok (.ifCond .eq 18, 3) := by decide +kernel
theorem dX5_statement_94 : decode cX5_statement 94 = .ok (.aload_n 0, 1) := by decide +kernel
theorem dX5_statement_95 : decode cX5_statement 95 = .ok (.iload_n 2, 1) := by decide +kernel
theorem dX5_statement_96 : decode cX5_statement 96 = .ok (.iconst 1, 1) := by decide +kernel
theorem dX5_statement_97 : decode cX5_statement 97 = .ok (.iadd, 1) := by decide +kernel
theorem dX5_statement_98 : decode cX5_statement 98 = .ok (.iconst 1, 1) := by decide +kernel
theorem dX5_statement_99 : decode cX5_statement 99 = .ok (.invokevirtual 90, 3) := by decide +kernel
theorem dX5_statement_102 : decode cX5_statement 102 = .ok (.ifCond .eq 7, 3) := by decide +kernel
theorem dX5_statement_105 : decode cX5_statement 105 = .ok (.iconst 1, 1) := by decide +kernel
theorem dX5_statement_106 : decode cX5_statement 106 = .ok (.goto 11, 3) := by decide +kernel
theorem dX5_statement_109 : decode cX5_statement 109 = .ok (.iconst 0, 1) := by decide +kernel
theorem dX5_statement_110 : decode cX5_statement 110 = .ok (.goto 7, 3) := by decide +kernel
theorem dX5_statement_113 : decode cX5_statement 113 = .ok (.aload_n 0, 1) := by decide +kernel
theorem dX5_statement_114 : decode cX5_statement 114 = .ok (.invokevirtual 101, 3) := by decide +kernel
theorem dX5_statement_117 : decode cX5_statement 117 = .ok (.istore_n 3, 1) := by decide +kernel
theorem dX5_statement_118 : decode cX5_statement 118 = .ok (.iload_n 3, 1) := by decide +kernel
theorem dX5_statement_119 : decode cX5_statement 119 = .ok (.ifCond .eq 12, 3) := by decide +kernel
theorem dX5_statement_122 : decode cX5_statement 122 = .ok (.aload_n 0, 1) := by decide +kernel
theorem dX5_statement_123 : decode cX5_statement 123 = .ok (.invokevirtual 75, 3) := by decide +kernel
theorem dX5_statement_126 : decode cX5_statement 126 = .ok (.bipush 59, 2) := by decide +kernel
theorem dX5_statement_128 : decode cX5_statement 128 = .ok (.if_icmp .eq 5, 3) := by decide +kernel
theorem dX5_statement_131 : decode cX5_statement 131 = .ok (.iconst 0, 1) := by decide +kernel
theorem dX5_statement_132 : decode cX5_statement 132 = .ok (.ireturn, 1) := by decide +kernel
theorem dX5_statement_133 : decode cX5_statement 133 = .ok (.aload_n 0, 1) := by decide +kernel
theorem dX5_statement_134 : decode cX5_statement 134 = .ok (.dup, 1) := by decide +kernel
theorem dX5_statement_135 : decode cX5_statement 135 = .ok (.getfield 72, 3) := by decide +kernel
theorem dX5_statement_138 : decode cX5_statement 138 = .ok (.iconst 1, 1) := by decide +kernel
theorem dX5_statement_139 : decode cX5_statement 139 = .ok (.iadd, 1) := by decide +kernel
theorem dX5_statement_140 : decode cX5_statement 140 = .ok (.putfield 72, 3) := by decide +kernel
theorem dX5_statement_143 : decode cX5_statement 143 = .ok (.iconst 1, 1) := by decide +kernel
theorem dX5_statement_144 : decode cX5_statement 144 = .ok (.ireturn, 1) := by decide +kernel
set_option maxRecDepth 20000 in
theorem ggX5_comesYear_X5_isAlive : GoodIn wsX5_comesYear wsX5_isAlive := goodIn_r _ [9, 10, 11, 26, 27, 28, 29, 30, 31, 32, 33, 34, 35, 36, 37, 38, 39, 40, 41, 42, 43, 44, 45, 46, 47, 48, 49] (by decide +kernel) (by decide +kernel)
set_option maxRecDepth 20000 in
theorem gX5_comesYear_X5_isAlive : GoodIn wsX5_comesYear (wsV RX5 104 RX5 yX5_isAlive wsX5_isAlive) := goodIn_app (goodIn_of _ (by decide +kernel)) ggX5_comesYear_X5_isAlive
set_option maxRecDepth 20000 in
theorem ggX5_comesYear_X5_goesYear : GoodIn wsX5_comesYear wsX5_goesYear := goodIn_r _ [15, 10, 16, 11, 17, 4, 18, 19, 20, 8, 21, 22, 23, 24, 25, 26, 27, 28, 29, 30, 31, 32, 33, 34, 35, 36, 37, 38, 39, 40, 41, 42, 43, 44, 45, 46, 47, 48, 49] (by decide +kernel) (by decide +kernel)
set_option maxRecDepth 20000 in
theorem gX5_comesYear_X5_goesYear : GoodIn wsX5_comesYear (wsV RX5 110 RX5 yX5_goesYear wsX5_goesYear) := goodIn_app (goodIn_of _ (by decide +kernel)) ggX5_comesYear_X5_goesYear
theorem dX5_comesYear_0 : decode cX5_comesYear 0 = .ok (.iconst 0, 1) := by decide +kernel
theorem dX5_comesYear_1 : decode cX5_comesYear 1 = .ok (.istore_n 2, 1) := by decide +kernel
theorem dX5_comesYear_2 : decode cX5_comesYear 2 = .ok (.aload_n 0, 1) := by decide +kernel
theorem dX5_comesYear_3 : decode cX5_comesYear 3 = .ok (.getfield 40, 3) := by decide +kernel
theorem dX5_comesYear_6 : decode cX5_comesYear 6 = .ok (.iload_n 1, 1) := by decide +kernel
theorem dX5_comesYear_7 : decode cX5_comesYear 7 = .ok (.iaload, 1) := by decide +kernel
theorem dX5_comesYear_8 : decode cX5_comesYear 8 = .ok (.istore_n 3, 1) := by decide +kernel
theorem dX5_comesYear_9 : decode cX5_comesYear 9 = .ok (.iload_n 3, 1) := by decide +kernel
theorem dX5_comesYear_10 : decode cX5_comesYear 10 = .ok (.aload_n 0, 1) := by decide +kernel
theorem dX5_comesYear_11 : decode cX5_comesYear 11 = .ok (.getfield 43, 3) := by decide +kernel
theorem dX5_comesYear_14 : decode cX5_comesYear 14 = .ok (.iload_n 1, 1) := by decide +kernel
theorem dX5_comesYear_15 : decode cX5_comesYear 15 = .ok (.iaload, 1) := by decide +kernel
theorem dX5_comesYear_16 : decode cX5_comesYear 16 = .ok (.if_icmp .ge 48, 3) := by decide +kernel
theorem dX5_comesYear_19 : decode cX5_comesYear 19 = .ok (.aload_n 0, 1) := by decide +kernel
theorem dX5_comesYear_20 : decode cX5_comesYear 20 = .ok (.getfield 28, 3) := by decide +kernel
theorem dX5_comesYear_23 : decode cX5_comesYear 23 = .ok (.iload_n 3, 1) := by decide +kernel
theorem dX5_comesYear_24 : decode cX5_comesYear 24 = .ok (.iaload, 1) := by decide +kernel
theorem dX5_comesYear_25 : decode cX5_comesYear 25 = .ok (.bipush 48, 2) := by decide +kernel
theorem dX5_comesYear_27 : decode cX5_comesYear 27 = .ok (.isub, 1) := by decide +kernel
theorem dX5_comesYear_28 : decode cX5_comesYear 28 = .ok (.istore 4, 2) := by decide +kernel
theorem dX5_comesYear_30 : decode cX5_comesYear 30 = .ok (.aload_n 0, 1) := by decide +kernel
theorem dX5_comesYear_31 : decode cX5_comesYear 31 = .ok (.iload 4, 2) := by decide +kernel
theorem dX5_comesYear_33 : decode cX5_comesYear 33 = .ok (.invokevirtual 104, 3) := by decide +kernel
theorem dX5_comesYear_36 : decode cX5_comesYear 36 = .ok (.ifCond .eq 13, 3) := by decide +kernel
theorem dX5_comesYear_39 : decode cX5_comesYear 39 = .ok (.iload_n 2, 1) := by decide +kernel
theorem dX5_comesYear_40 : decode cX5_comesYear 40 = .ok (.iload 4, 2) := by decide +kernel
theorem dX5_comesYear_42 : decode cX5_comesYear 42 = .ok (.ishr, 1) := by decide +kernel
theorem dX5_comesYear_43 : decode cX5_comesYear 43 = .ok (.iconst 1, 1) := by decide +kernel
theorem dX5_comesYear_44 : decode cX5_comesYear 44 = .ok (.iand, 1) := by decide +kernel
theorem dX5_comesYear_45 : decode cX5_comesYear 45 = .ok (.iconst 1, 1) := by decide +kernel
theorem dX5_comesYear_46 : decode cX5_comesYear 46 = .ok (.if_icmp .ne 5, 3) := by decide +kernel
theorem dX5_comesYear_49 : decode cX5_comesYear 49 = .ok (.iconst 0, 1) := by decide +kernel
theorem dX5_comesYear_50 : decode cX5_comesYear 50 = .ok (.ireturn, 1) := by decide +kernel
theorem dX5_comesYear_51 : decode cX5_comesYear 51 = .ok (.iload_n 2, 1) := by decide +kernel
theorem dX5_comesYear_52 : decode cX5_comesYear 52 = .ok (.iconst 1, 1) := by decide +kernel
theorem dX5_comesYear_53 : decode cX5_comesYear 53 = .ok (.iload 4, 2) := by decide +kernel
theorem dX5_comesYear_55 : decode cX5_comesYear 55 = .ok (.ishl, 1) := by decide +kernel
theorem dX5_comesYear_56 : decode cX5_comesYear 56 = .ok (.ior, 1) := by decide +kernel
theorem dX5_comesYear_57 : decode cX5_comesYear 57 = .ok (.istore_n 2, 1) := by decide +kernel
theorem dX5_comesYear_58 : decode cX5_comesYear 58 = .ok (.iinc 3 1, 3) := by decide +kernel
theorem dX5_comesYear_61 : decode cX5_comesYear 61 = .ok (.goto (-52), 3) := by decide +kernel
theorem dX5_comesYear_64 : decode cX5_comesYear 64 = .ok (.aload_n 0, 1) := by decide +kernel
theorem dX5_comesYear_65 : decode cX5_comesYear 65 = .ok (.getfield 107, 3) := by decide +kernel
theorem dX5_comesYear_68 : decode cX5_comesYear 68 = .ok (.bipush 99, 2) := by decide +kernel
theorem dX5_comesYear_70 : decode cX5_comesYear 70 = .ok (.if_icmp .ne 5, 3) := by decide +kernel
theorem dX5_comesYear_73 : decode cX5_comesYear 73 = .ok (.iconst 0, 1) := by decide +kernel
theorem dX5_comesYear_74 : decode cX5_comesYear 74 = .ok (.ireturn, 1) := by decide +kernel
theorem dX5_comesYear_75 : decode cX5_comesYear 75 = .ok (.aload_n 0, 1) := by decide +kernel
theorem dX5_comesYear_76 : decode cX5_comesYear 76 = .ok (.iload_n 2, 1) := by decide +kernel
theorem dX5_comesYear_77 : decode cX5_comesYear 77 = .ok (.invokevirtual 110, 3) := by decide +kernel
theorem dX5_comesYear_80 : decode cX5_comesYear 80 = .ok (.pop, 1) := by decide +kernel
theorem dX5_comesYear_81 : decode cX5_comesYear 81 = .ok (.iconst 1, 1) := by decide +kernel
theorem dX5_comesYear_82 : decode cX5_comesYear 82 = .ok (.ireturn, 1) := by decide +kernel
set_option maxRecDepth 20000 in
theorem ggX5_comesIn_X5_entryOf : GoodIn wsX5_comesIn wsX5_entryOf := goodIn_r _ [10] (by decide +kernel) (by decide +kernel)
set_option maxRecDepth 20000 in
theorem gX5_comesIn_X5_entryOf : GoodIn wsX5_comesIn (va_wsS RX5 113 yX5_entryOf wsX5_entryOf) := goodIn_app (goodIn_of _ (by decide +kernel)) ggX5_comesIn_X5_entryOf
set_option maxRecDepth 20000 in
theorem ggX5_comesIn_X5_whoOn : GoodIn wsX5_comesIn wsX5_whoOn := goodIn_r _ [14, 1, 4, 15, 16, 17, 18, 19, 20, 21, 22, 23, 24, 25, 26, 27, 28, 29, 30, 31, 32, 33, 34, 35, 36, 37, 38] (by decide +kernel) (by decide +kernel)
set_option maxRecDepth 20000 in
theorem gX5_comesIn_X5_whoOn : GoodIn wsX5_comesIn (wsV RX5 117 RX5 yX5_whoOn wsX5_whoOn) := goodIn_app (goodIn_of _ (by decide +kernel)) ggX5_comesIn_X5_whoOn
theorem dX5_comesIn_0 : decode cX5_comesIn 0 = .ok (.iload_n 1, 1) := by decide +kernel
theorem dX5_comesIn_1 : decode cX5_comesIn 1 = .ok (.iload_n 2, 1) := by decide +kernel
theorem dX5_comesIn_2 : decode cX5_comesIn 2 = .ok (.invokestatic 113, 3) := by decide +kernel
theorem dX5_comesIn_5 : decode cX5_comesIn 5 = .ok (.istore 4, 2) := by decide +kernel
theorem dX5_comesIn_7 : decode cX5_comesIn 7 = .ok (.aload_n 0, 1) := by decide +kernel
theorem dX5_comesIn_8 : decode cX5_comesIn 8 = .ok (.getfield 57, 3) := by decide +kernel
theorem dX5_comesIn_11 : decode cX5_comesIn 11 = .ok (.bipush 8, 2) := by decide +kernel
theorem dX5_comesIn_13 : decode cX5_comesIn 13 = .ok (.if_icmp .eq 12, 3) := by decide +kernel
theorem dX5_comesIn_16 : decode cX5_comesIn 16 = .ok (.aload_n 0, 1) := by decide +kernel
theorem dX5_comesIn_17 : decode cX5_comesIn 17 = .ok (.iload 4, 2) := by decide +kernel
theorem dX5_comesIn_19 : decode cX5_comesIn 19 = .ok (.invokevirtual 117, 3) := by decide +kernel
theorem dX5_comesIn_22 : decode cX5_comesIn 22 = .ok (.ifCond .lt 5, 3) := by decide +kernel
theorem dX5_comesIn_25 : decode cX5_comesIn 25 = .ok (.iconst 0, 1) := by decide +kernel
theorem dX5_comesIn_26 : decode cX5_comesIn 26 = .ok (.ireturn, 1) := by decide +kernel
theorem dX5_comesIn_27 : decode cX5_comesIn 27 = .ok (.aload_n 0, 1) := by decide +kernel
theorem dX5_comesIn_28 : decode cX5_comesIn 28 = .ok (.getfield 13, 3) := by decide +kernel
theorem dX5_comesIn_31 : decode cX5_comesIn 31 = .ok (.aload_n 0, 1) := by decide +kernel
theorem dX5_comesIn_32 : decode cX5_comesIn 32 = .ok (.getfield 57, 3) := by decide +kernel
theorem dX5_comesIn_35 : decode cX5_comesIn 35 = .ok (.iload_n 1, 1) := by decide +kernel
theorem dX5_comesIn_36 : decode cX5_comesIn 36 = .ok (.iastore, 1) := by decide +kernel
theorem dX5_comesIn_37 : decode cX5_comesIn 37 = .ok (.aload_n 0, 1) := by decide +kernel
theorem dX5_comesIn_38 : decode cX5_comesIn 38 = .ok (.getfield 16, 3) := by decide +kernel
theorem dX5_comesIn_41 : decode cX5_comesIn 41 = .ok (.aload_n 0, 1) := by decide +kernel
theorem dX5_comesIn_42 : decode cX5_comesIn 42 = .ok (.getfield 57, 3) := by decide +kernel
theorem dX5_comesIn_45 : decode cX5_comesIn 45 = .ok (.iload_n 2, 1) := by decide +kernel
theorem dX5_comesIn_46 : decode cX5_comesIn 46 = .ok (.iastore, 1) := by decide +kernel
theorem dX5_comesIn_47 : decode cX5_comesIn 47 = .ok (.aload_n 0, 1) := by decide +kernel
theorem dX5_comesIn_48 : decode cX5_comesIn 48 = .ok (.getfield 19, 3) := by decide +kernel
theorem dX5_comesIn_51 : decode cX5_comesIn 51 = .ok (.aload_n 0, 1) := by decide +kernel
theorem dX5_comesIn_52 : decode cX5_comesIn 52 = .ok (.getfield 57, 3) := by decide +kernel
theorem dX5_comesIn_55 : decode cX5_comesIn 55 = .ok (.iload 4, 2) := by decide +kernel
theorem dX5_comesIn_57 : decode cX5_comesIn 57 = .ok (.iastore, 1) := by decide +kernel
theorem dX5_comesIn_58 : decode cX5_comesIn 58 = .ok (.aload_n 0, 1) := by decide +kernel
theorem dX5_comesIn_59 : decode cX5_comesIn 59 = .ok (.getfield 22, 3) := by decide +kernel
theorem dX5_comesIn_62 : decode cX5_comesIn 62 = .ok (.aload_n 0, 1) := by decide +kernel
theorem dX5_comesIn_63 : decode cX5_comesIn 63 = .ok (.getfield 57, 3) := by decide +kernel
theorem dX5_comesIn_66 : decode cX5_comesIn 66 = .ok (.iload_n 3, 1) := by decide +kernel
theorem dX5_comesIn_67 : decode cX5_comesIn 67 = .ok (.iastore, 1) := by decide +kernel
theorem dX5_comesIn_68 : decode cX5_comesIn 68 = .ok (.aload_n 0, 1) := by decide +kernel
theorem dX5_comesIn_69 : decode cX5_comesIn 69 = .ok (.getfield 25, 3) := by decide +kernel
theorem dX5_comesIn_72 : decode cX5_comesIn 72 = .ok (.aload_n 0, 1) := by decide +kernel
theorem dX5_comesIn_73 : decode cX5_comesIn 73 = .ok (.getfield 57, 3) := by decide +kernel
theorem dX5_comesIn_76 : decode cX5_comesIn 76 = .ok (.bipush (-9), 2) := by decide +kernel
theorem dX5_comesIn_78 : decode cX5_comesIn 78 = .ok (.iastore, 1) := by decide +kernel
theorem dX5_comesIn_79 : decode cX5_comesIn 79 = .ok (.aload_n 0, 1) := by decide +kernel
theorem dX5_comesIn_80 : decode cX5_comesIn 80 = .ok (.dup, 1) := by decide +kernel
theorem dX5_comesIn_81 : decode cX5_comesIn 81 = .ok (.getfield 57, 3) := by decide +kernel
theorem dX5_comesIn_84 : decode cX5_comesIn 84 = .ok (.iconst 1, 1) := by decide +kernel
theorem dX5_comesIn_85 : decode cX5_comesIn 85 = .ok (.iadd, 1) := by decide +kernel
theorem dX5_comesIn_86 : decode cX5_comesIn 86 = .ok (.putfield 57, 3) := by decide +kernel
theorem dX5_comesIn_89 : decode cX5_comesIn 89 = .ok (.iconst 1, 1) := by decide +kernel
theorem dX5_comesIn_90 : decode cX5_comesIn 90 = .ok (.ireturn, 1) := by decide +kernel
set_option maxRecDepth 20000 in
theorem ggX5_comes_X5_comesIn : GoodIn wsX5_comes wsX5_comesIn := goodIn_r _ [8, 9, 10, 11, 12, 13, 3, 14, 15, 7, 16, 17, 18, 19, 20, 45, 46, 47, 48, 49, 50, 51, 52, 53, 54, 55, 56, 57, 58, 59, 60, 61, 62, 63, 64, 65, 66, 67, 68] (by decide +kernel) (by decide +kernel)
set_option maxRecDepth 20000 in
theorem gX5_comes_X5_comesIn : GoodIn wsX5_comes (wsV RX5 120 RX5 yX5_comesIn wsX5_comesIn) := goodIn_app (goodIn_of _ (by decide +kernel)) ggX5_comes_X5_comesIn
set_option maxRecDepth 20000 in
theorem ggX5_comes_X5_comesYear : GoodIn wsX5_comes wsX5_comesYear := goodIn_r _ [24, 25, 26, 27, 28, 29, 30, 31, 7, 32, 9, 12, 33, 34, 35, 36, 37, 11, 38, 39, 40, 41, 10, 42, 43, 44, 45, 46, 47, 48, 49, 50, 51, 52, 53, 54, 55, 56, 57, 58, 59, 60, 61, 62, 63, 64, 65, 66, 67, 68] (by decide +kernel) (by decide +kernel)
set_option maxRecDepth 20000 in
theorem gX5_comes_X5_comesYear : GoodIn wsX5_comes (wsV RX5 123 RX5 yX5_comesYear wsX5_comesYear) := goodIn_app (goodIn_of _ (by decide +kernel)) ggX5_comes_X5_comesYear
set_option maxRecDepth 20000 in
theorem ggX5_comes_X5_isAlive : GoodIn wsX5_comes wsX5_isAlive := goodIn_r _ [32, 9, 12, 45, 46, 47, 48, 49, 50, 51, 52, 53, 54, 55, 56, 57, 58, 59, 60, 61, 62, 63, 64, 65, 66, 67, 68] (by decide +kernel) (by decide +kernel)
set_option maxRecDepth 20000 in
theorem gX5_comes_X5_isAlive : GoodIn wsX5_comes (wsV RX5 104 RX5 yX5_isAlive wsX5_isAlive) := goodIn_app (goodIn_of _ (by decide +kernel)) ggX5_comes_X5_isAlive
theorem dX5_comes_0 : decode cX5_comes 0 = .ok (.iconst 3, 1) := by decide +kernel
theorem dX5_comes_1 : decode cX5_comes 1 = .ok (.iload_n 1, 1) := by decide +kernel
theorem dX5_comes_2 : decode cX5_comes 2 = .ok (.imul, 1) := by decide +kernel
theorem dX5_comes_3 : decode cX5_comes 3 = .ok (.istore_n 2, 1) := by decide +kernel
theorem dX5_comes_4 : decode cX5_comes 4 = .ok (.aload_n 0, 1) := by decide +kernel
theorem dX5_comes_5 : decode cX5_comes 5 = .ok (.getfield 31, 3) := by decide +kernel
theorem dX5_comes_8 : decode cX5_comes 8 = .ok (.iload_n 1, 1) := by decide +kernel
theorem dX5_comes_9 : decode cX5_comes 9 = .ok (.iaload, 1) := by decide +kernel
theorem dX5_comes_10 : decode cX5_comes 10 = .ok (.bipush 108, 2) := by decide +kernel
theorem dX5_comes_12 : decode cX5_comes 12 = .ok (.if_icmp .ne 30, 3) := by decide +kernel
theorem dX5_comes_15 : decode cX5_comes 15 = .ok (.aload_n 0, 1) := by decide +kernel
theorem dX5_comes_16 : decode cX5_comes 16 = .ok (.aload_n 0, 1) := by decide +kernel
theorem dX5_comes_17 : decode cX5_comes 17 = .ok (.getfield 37, 3) := by decide +kernel
theorem dX5_comes_20 : decode cX5_comes 20 = .ok (.iload_n 2, 1) := by decide +kernel
theorem dX5_comes_21 : decode cX5_comes 21 = .ok (.iaload, 1) := by decide +kernel
theorem dX5_comes_22 : decode cX5_comes 22 = .ok (.aload_n 0, 1) := by decide +kernel
theorem dX5_comes_23 : decode cX5_comes 23 = .ok (.getfield 37, 3) := by decide +kernel
theorem dX5_comes_26 : decode cX5_comes 26 = .ok (.iload_n 2, 1) := by decide +kernel
theorem dX5_comes_27 : decode cX5_comes 27 = .ok (.iconst 1, 1) := by decide +kernel
theorem dX5_comes_28 : decode cX5_comes 28 = .ok (.iadd, 1) := by decide +kernel
theorem dX5_comes_29 : decode cX5_comes 29 = .ok (.iaload, 1) := by decide +kernel
theorem dX5_comes_30 : decode cX5_comes 30 = .ok (.aload_n 0, 1) := by decide +kernel
theorem dX5_comes_31 : decode cX5_comes 31 = .ok (.getfield 37, 3) := by decide +kernel
theorem dX5_comes_34 : decode cX5_comes 34 = .ok (.iload_n 2, 1) := by decide +kernel
theorem dX5_comes_35 : decode cX5_comes 35 = .ok (.iconst 2, 1) := by decide +kernel
theorem dX5_comes_36 : decode cX5_comes 36 = .ok (.iadd, 1) := by decide +kernel
theorem dX5_comes_37 : decode cX5_comes 37 = .ok (.iaload, 1) := by decide +kernel
theorem dX5_comes_38 : decode cX5_comes 38 = .ok (.invokevirtual 120, 3) := by decide +kernel
theorem dX5_comes_41 : decode cX5_comes 41 = .ok (.ireturn, 1) := by decide +kernel
theorem dX5_comes_42 : decode cX5_comes 42 = .ok (.aload_n 0, 1) := by decide +kernel
theorem dX5_comes_43 : decode cX5_comes 43 = .ok (.getfield 31, 3) := by decide +kernel
theorem dX5_comes_46 : decode cX5_comes 46 = .ok (.iload_n 1, 1) := by decide +kernel
theorem dX5_comes_47 : decode cX5_comes 47 = .ok (.iaload, 1) := by decide +kernel
theorem dX5_comes_48 : decode cX5_comes 48 = .ok (.bipush 121, 2) := by decide +kernel
theorem dX5_comes_50 : decode cX5_comes 50 = .ok (.if_icmp .ne 9, 3) := by decide +kernel
theorem dX5_comes_53 : decode cX5_comes 53 = .ok (.aload_n 0, 1) := by decide +kernel
theorem dX5_comes_54 : decode cX5_comes 54 = .ok (.iload_n 1, 1) := by decide +kernel
theorem dX5_comes_55 : decode cX5_comes 55 = .ok (.invokevirtual 123, 3) := by decide +kernel
theorem dX5_comes_58 : decode cX5_comes 58 = .ok (.ireturn, 1) := by decide +kernel
theorem dX5_comes_59 : decode cX5_comes 59 = .ok (.aload_n 0, 1) := by decide +kernel
theorem dX5_comes_60 : decode cX5_comes 60 = .ok (.aload_n 0, 1) := by decide +kernel
theorem dX5_comes_61 : decode cX5_comes 61 = .ok (.getfield 37, 3) := by decide +kernel
theorem dX5_comes_64 : decode cX5_comes 64 = .ok (.iload_n 2, 1) := by decide +kernel
theorem dX5_comes_65 : decode cX5_comes 65 = .ok (.iaload, 1) := by decide +kernel
theorem dX5_comes_66 : decode cX5_comes 66 = .ok (.invokevirtual 104, 3) := by decide +kernel
theorem dX5_comes_69 : decode cX5_comes 69 = .ok (.ifCond .ne 5, 3) := by decide +kernel
theorem dX5_comes_72 : decode cX5_comes 72 = .ok (.iconst 0, 1) := by decide +kernel
theorem dX5_comes_73 : decode cX5_comes 73 = .ok (.ireturn, 1) := by decide +kernel
theorem dX5_comes_74 : decode cX5_comes 74 = .ok (.aload_n 0, 1) := by decide +kernel
theorem dX5_comes_75 : decode cX5_comes 75 = .ok (.getfield 25, 3) := by decide +kernel
theorem dX5_comes_78 : decode cX5_comes 78 = .ok (.aload_n 0, 1) := by decide +kernel
theorem dX5_comes_79 : decode cX5_comes 79 = .ok (.getfield 37, 3) := by decide +kernel
theorem dX5_comes_82 : decode cX5_comes 82 = .ok (.iload_n 2, 1) := by decide +kernel
theorem dX5_comes_83 : decode cX5_comes 83 = .ok (.iaload, 1) := by decide +kernel
theorem dX5_comes_84 : decode cX5_comes 84 = .ok (.aload_n 0, 1) := by decide +kernel
theorem dX5_comes_85 : decode cX5_comes 85 = .ok (.getfield 37, 3) := by decide +kernel
theorem dX5_comes_88 : decode cX5_comes 88 = .ok (.iload_n 2, 1) := by decide +kernel
theorem dX5_comes_89 : decode cX5_comes 89 = .ok (.iconst 1, 1) := by decide +kernel
theorem dX5_comes_90 : decode cX5_comes 90 = .ok (.iadd, 1) := by decide +kernel
theorem dX5_comes_91 : decode cX5_comes 91 = .ok (.iaload, 1) := by decide +kernel
theorem dX5_comes_92 : decode cX5_comes 92 = .ok (.iastore, 1) := by decide +kernel
theorem dX5_comes_93 : decode cX5_comes 93 = .ok (.iconst 1, 1) := by decide +kernel
theorem dX5_comes_94 : decode cX5_comes 94 = .ok (.ireturn, 1) := by decide +kernel
set_option maxRecDepth 20000 in
theorem ggX5_house_X5_statement : GoodIn wsX5_house wsX5_statement := goodIn_r _ [9, 10, 2, 4, 1, 11, 12, 13, 8, 14, 3, 15, 16, 17, 18, 19, 20, 21, 22, 23, 24, 25, 26, 27, 28, 29, 30, 31, 32, 33, 34, 35, 36, 37, 38, 39, 40, 98, 99, 100, 101, 102, 103, 104, 105, 106, 107, 108, 109, 110, 111, 112, 113, 114, 115, 116, 117, 118, 119, 120, 121] (by decide +kernel) (by decide +kernel)
set_option maxRecDepth 20000 in
theorem gX5_house_X5_statement : GoodIn wsX5_house (wsV RX5 126 RX5 yX5_statement wsX5_statement) := goodIn_app (goodIn_of _ (by decide +kernel)) ggX5_house_X5_statement
set_option maxRecDepth 20000 in
theorem ggX5_house_X5_passesAll : GoodIn wsX5_house wsX5_passesAll := goodIn_r _ [44, 45, 46, 47, 48, 49, 50, 51, 52, 53, 54, 55, 56, 8, 57, 58, 59, 60, 61, 62, 98, 99, 100, 101, 102, 103, 104, 105, 106, 107, 108, 109, 110, 111, 112, 113, 114, 115, 116, 117, 118, 119, 120, 121] (by decide +kernel) (by decide +kernel)
set_option maxRecDepth 20000 in
theorem gX5_house_X5_passesAll : GoodIn wsX5_house (wsV RX5 129 RX5 yX5_passesAll wsX5_passesAll) := goodIn_app (goodIn_of _ (by decide +kernel)) ggX5_house_X5_passesAll
set_option maxRecDepth 20000 in
theorem ggX5_house_X5_comes : GoodIn wsX5_house wsX5_comes := goodIn_r _ [66, 10, 20, 51, 67, 68, 69, 8, 70, 52, 47, 48, 49, 50, 71, 72, 73, 74, 75, 76, 77, 78, 79, 80, 81, 39, 40, 15, 53, 82, 83, 84, 85, 86, 87, 88, 89, 90, 91, 92, 93, 94, 95, 96, 97, 98, 99, 100, 101, 102, 103, 104, 105, 106, 107, 108, 109, 110, 111, 112, 113, 114, 115, 116, 117, 118, 119, 120, 121] (by decide +kernel) (by decide +kernel)
set_option maxRecDepth 20000 in
theorem gX5_house_X5_comes : GoodIn wsX5_house (wsV RX5 133 RX5 yX5_comes wsX5_comes) := goodIn_app (goodIn_of _ (by decide +kernel)) ggX5_house_X5_comes
theorem dX5_house_0 : decode cX5_house 0 = .ok (.aload_n 0, 1) := by decide +kernel
theorem dX5_house_1 : decode cX5_house 1 = .ok (.iconst 0, 1) := by decide +kernel
theorem dX5_house_2 : decode cX5_house 2 = .ok (.putfield 72, 3) := by decide +kernel
theorem dX5_house_5 : decode cX5_house 5 = .ok (.aload_n 0, 1) := by decide +kernel
theorem dX5_house_6 : decode cX5_house 6 = .ok (.iconst 0, 1) := by decide +kernel
theorem dX5_house_7 : decode cX5_house 7 = .ok (.putfield 94, 3) := by decide +kernel
theorem dX5_house_10 : decode cX5_house 10 = .ok (.iconst 1, 1) := by decide +kernel
theorem dX5_house_11 : decode cX5_house 11 = .ok (.istore_n 1, 1) := by decide +kernel
theorem dX5_house_12 : decode cX5_house 12 = .ok (.iload_n 1, 1) := by decide +kernel
theorem dX5_house_13 : decode cX5_house 13 = .ok (.ifCond .eq 47, 3) := by decide +kernel
theorem dX5_house_16 : decode cX5_house 16 = .ok (.aload_n 0, 1) := by decide +kernel
theorem dX5_house_17 : decode cX5_house 17 = .ok (.getfield 72, 3) := by decide +kernel
theorem dX5_house_20 : decode cX5_house 20 = .ok (.aload_n 0, 1) := by decide +kernel
theorem dX5_house_21 : decode cX5_house 21 = .ok (.getfield 65, 3) := by decide +kernel
theorem dX5_house_24 : decode cX5_house 24 = .ok (.if_icmp .lt 10, 3) := by decide +kernel
theorem dX5_house_27 : decode cX5_house 27 = .ok (.aload_n 0, 1) := by decide +kernel
theorem dX5_house_28 : decode cX5_house 28 = .ok (.getfield 94, 3) := by decide +kernel
theorem dX5_house_31 : decode cX5_house 31 = .ok (.ifCond .ne 29, 3) := by decide +kernel
theorem dX5_house_34 : decode cX5_house 34 = .ok (.aload_n 0, 1) := by decide +kernel
theorem dX5_house_35 : decode cX5_house 35 = .ok (.invokevirtual 126, 3) := by decide +kernel
theorem dX5_house_38 : decode cX5_house 38 = .ok (.istore_n 1, 1) := by decide +kernel
theorem dX5_house_39 : decode cX5_house 39 = .ok (.aload_n 0, 1) := by decide +kernel
theorem dX5_house_40 : decode cX5_house 40 = .ok (.dup, 1) := by decide +kernel
theorem dX5_house_41 : decode cX5_house 41 = .ok (.getfield 94, 3) := by decide +kernel
theorem dX5_house_44 : decode cX5_house 44 = .ok (.iload_n 1, 1) := by decide +kernel
theorem dX5_house_45 : decode cX5_house 45 = .ok (.ifCond .eq 7, 3) := by decide +kernel
theorem dX5_house_48 : decode cX5_house 48 = .ok (.iconst 1, 1) := by decide +kernel
theorem dX5_house_49 : decode cX5_house 49 = .ok (.goto 4, 3) := by decide +kernel
theorem dX5_house_52 : decode cX5_house 52 = .ok (.iconst 0, 1) := by decide +kernel
theorem dX5_house_53 : decode cX5_house 53 = .ok (.iadd, 1) := by decide +kernel
theorem dX5_house_54 : decode cX5_house 54 = .ok (.putfield 94, 3) := by decide +kernel
theorem dX5_house_57 : decode cX5_house 57 = .ok (.goto (-45), 3) := by decide +kernel
theorem dX5_house_60 : decode cX5_house 60 = .ok (.aload_n 0, 1) := by decide +kernel
theorem dX5_house_61 : decode cX5_house 61 = .ok (.iconst 0, 1) := by decide +kernel
theorem dX5_house_62 : decode cX5_house 62 = .ok (.putfield 65, 3) := by decide +kernel
theorem dX5_house_65 : decode cX5_house 65 = .ok (.iload_n 1, 1) := by decide +kernel
theorem dX5_house_66 : decode cX5_house 66 = .ok (.ifCond .ne 12, 3) := by decide +kernel
theorem dX5_house_69 : decode cX5_house 69 = .ok (.sipush (-1000), 3) := by decide +kernel
theorem dX5_house_72 : decode cX5_house 72 = .ok (.aload_n 0, 1) := by decide +kernel
theorem dX5_house_73 : decode cX5_house 73 = .ok (.getfield 72, 3) := by decide +kernel
theorem dX5_house_76 : decode cX5_house 76 = .ok (.isub, 1) := by decide +kernel
theorem dX5_house_77 : decode cX5_house 77 = .ok (.ireturn, 1) := by decide +kernel
theorem dX5_house_78 : decode cX5_house 78 = .ok (.aload_n 0, 1) := by decide +kernel
theorem dX5_house_79 : decode cX5_house 79 = .ok (.iconst 1, 1) := by decide +kernel
theorem dX5_house_80 : decode cX5_house 80 = .ok (.iconst 1, 1) := by decide +kernel
theorem dX5_house_81 : decode cX5_house 81 = .ok (.invokevirtual 129, 3) := by decide +kernel
theorem dX5_house_84 : decode cX5_house 84 = .ok (.iconst 0, 1) := by decide +kernel
theorem dX5_house_85 : decode cX5_house 85 = .ok (.istore_n 2, 1) := by decide +kernel
theorem dX5_house_86 : decode cX5_house 86 = .ok (.iload_n 2, 1) := by decide +kernel
theorem dX5_house_87 : decode cX5_house 87 = .ok (.aload_n 0, 1) := by decide +kernel
theorem dX5_house_88 : decode cX5_house 88 = .ok (.getfield 94, 3) := by decide +kernel
theorem dX5_house_91 : decode cX5_house 91 = .ok (.if_icmp .ge 37, 3) := by decide +kernel
theorem dX5_house_94 : decode cX5_house 94 = .ok (.aload_n 0, 1) := by decide +kernel
theorem dX5_house_95 : decode cX5_house 95 = .ok (.iload_n 2, 1) := by decide +kernel
theorem dX5_house_96 : decode cX5_house 96 = .ok (.invokevirtual 133, 3) := by decide +kernel
theorem dX5_house_99 : decode cX5_house 99 = .ok (.ifCond .eq 6, 3) := by decide +kernel
theorem dX5_house_102 : decode cX5_house 102 = .ok (.goto 20, 3) := by decide +kernel
theorem dX5_house_105 : decode cX5_house 105 = .ok (.aload_n 0, 1) := by decide +kernel
theorem dX5_house_106 : decode cX5_house 106 = .ok (.iconst 1, 1) := by decide +kernel
theorem dX5_house_107 : decode cX5_house 107 = .ok (.iconst 0, 1) := by decide +kernel
theorem dX5_house_108 : decode cX5_house 108 = .ok (.invokevirtual 129, 3) := by decide +kernel
theorem dX5_house_111 : decode cX5_house 111 = .ok (.sipush (-2000), 3) := by decide +kernel
theorem dX5_house_114 : decode cX5_house 114 = .ok (.aload_n 0, 1) := by decide +kernel
theorem dX5_house_115 : decode cX5_house 115 = .ok (.getfield 34, 3) := by decide +kernel
theorem dX5_house_118 : decode cX5_house 118 = .ok (.iload_n 2, 1) := by decide +kernel
theorem dX5_house_119 : decode cX5_house 119 = .ok (.iaload, 1) := by decide +kernel
theorem dX5_house_120 : decode cX5_house 120 = .ok (.isub, 1) := by decide +kernel
theorem dX5_house_121 : decode cX5_house 121 = .ok (.ireturn, 1) := by decide +kernel
theorem dX5_house_122 : decode cX5_house 122 = .ok (.iinc 2 1, 3) := by decide +kernel
theorem dX5_house_125 : decode cX5_house 125 = .ok (.goto (-39), 3) := by decide +kernel
theorem dX5_house_128 : decode cX5_house 128 = .ok (.aload_n 0, 1) := by decide +kernel
theorem dX5_house_129 : decode cX5_house 129 = .ok (.getfield 94, 3) := by decide +kernel
theorem dX5_house_132 : decode cX5_house 132 = .ok (.ireturn, 1) := by decide +kernel
theorem dX5_passes_0 : decode cX5_passes 0 = .ok (.iconst 0, 1) := by decide +kernel
theorem dX5_passes_1 : decode cX5_passes 1 = .ok (.istore_n 2, 1) := by decide +kernel
theorem dX5_passes_2 : decode cX5_passes 2 = .ok (.iload_n 2, 1) := by decide +kernel
theorem dX5_passes_3 : decode cX5_passes 3 = .ok (.aload_n 1, 1) := by decide +kernel
theorem dX5_passes_4 : decode cX5_passes 4 = .ok (.arraylength, 1) := by decide +kernel
theorem dX5_passes_5 : decode cX5_passes 5 = .ok (.if_icmp .ge 53, 3) := by decide +kernel
theorem dX5_passes_8 : decode cX5_passes 8 = .ok (.aload_n 0, 1) := by decide +kernel
theorem dX5_passes_9 : decode cX5_passes 9 = .ok (.getfield 136, 3) := by decide +kernel
theorem dX5_passes_12 : decode cX5_passes 12 = .ok (.ifCond .eq 18, 3) := by decide +kernel
theorem dX5_passes_15 : decode cX5_passes 15 = .ok (.aload_n 0, 1) := by decide +kernel
theorem dX5_passes_16 : decode cX5_passes 16 = .ok (.getfield 46, 3) := by decide +kernel
theorem dX5_passes_19 : decode cX5_passes 19 = .ok (.aload_n 0, 1) := by decide +kernel
theorem dX5_passes_20 : decode cX5_passes 20 = .ok (.getfield 140, 3) := by decide +kernel
theorem dX5_passes_23 : decode cX5_passes 23 = .ok (.aload_n 1, 1) := by decide +kernel
theorem dX5_passes_24 : decode cX5_passes 24 = .ok (.iload_n 2, 1) := by decide +kernel
theorem dX5_passes_25 : decode cX5_passes 25 = .ok (.iaload, 1) := by decide +kernel
theorem dX5_passes_26 : decode cX5_passes 26 = .ok (.iastore, 1) := by decide +kernel
theorem dX5_passes_27 : decode cX5_passes 27 = .ok (.goto 15, 3) := by decide +kernel
theorem dX5_passes_30 : decode cX5_passes 30 = .ok (.aload_n 1, 1) := by decide +kernel
theorem dX5_passes_31 : decode cX5_passes 31 = .ok (.iload_n 2, 1) := by decide +kernel
theorem dX5_passes_32 : decode cX5_passes 32 = .ok (.aload_n 0, 1) := by decide +kernel
theorem dX5_passes_33 : decode cX5_passes 33 = .ok (.getfield 46, 3) := by decide +kernel
theorem dX5_passes_36 : decode cX5_passes 36 = .ok (.aload_n 0, 1) := by decide +kernel
theorem dX5_passes_37 : decode cX5_passes 37 = .ok (.getfield 140, 3) := by decide +kernel
theorem dX5_passes_40 : decode cX5_passes 40 = .ok (.iaload, 1) := by decide +kernel
theorem dX5_passes_41 : decode cX5_passes 41 = .ok (.iastore, 1) := by decide +kernel
theorem dX5_passes_42 : decode cX5_passes 42 = .ok (.aload_n 0, 1) := by decide +kernel
theorem dX5_passes_43 : decode cX5_passes 43 = .ok (.dup, 1) := by decide +kernel
theorem dX5_passes_44 : decode cX5_passes 44 = .ok (.getfield 140, 3) := by decide +kernel
theorem dX5_passes_47 : decode cX5_passes 47 = .ok (.iconst 1, 1) := by decide +kernel
theorem dX5_passes_48 : decode cX5_passes 48 = .ok (.iadd, 1) := by decide +kernel
theorem dX5_passes_49 : decode cX5_passes 49 = .ok (.putfield 140, 3) := by decide +kernel
theorem dX5_passes_52 : decode cX5_passes 52 = .ok (.iinc 2 1, 3) := by decide +kernel
theorem dX5_passes_55 : decode cX5_passes 55 = .ok (.goto (-53), 3) := by decide +kernel
theorem dX5_passes_58 : decode cX5_passes 58 = .ok (.return_, 1) := by decide +kernel
theorem dX5_passOne_0 : decode cX5_passOne 0 = .ok (.aload_n 0, 1) := by decide +kernel
theorem dX5_passOne_1 : decode cX5_passOne 1 = .ok (.getfield 136, 3) := by decide +kernel
end
section
theorem dX5_passOne_4 : decode cX5_passOne 4 = .ok (.ifCond .eq 7, 3) := by decide +kernel
theorem dX5_passOne_7 : decode cX5_passOne 7 = .ok (.iload_n 1, 1) := by decide +kernel
theorem dX5_passOne_8 : decode cX5_passOne 8 = .ok (.goto 12, 3) := by decide +kernel
theorem dX5_passOne_11 : decode cX5_passOne 11 = .ok (.aload_n 0, 1) := by decide +kernel
theorem dX5_passOne_12 : decode cX5_passOne 12 = .ok (.getfield 46, 3) := by decide +kernel
theorem dX5_passOne_15 : decode cX5_passOne 15 = .ok (.aload_n 0, 1) := by decide +kernel
theorem dX5_passOne_16 : decode cX5_passOne 16 = .ok (.getfield 140, 3) := by decide +kernel
theorem dX5_passOne_19 : decode cX5_passOne 19 = .ok (.iaload, 1) := by decide +kernel
theorem dX5_passOne_20 : decode cX5_passOne 20 = .ok (.istore_n 2, 1) := by decide +kernel
theorem dX5_passOne_21 : decode cX5_passOne 21 = .ok (.aload_n 0, 1) := by decide +kernel
theorem dX5_passOne_22 : decode cX5_passOne 22 = .ok (.getfield 136, 3) := by decide +kernel
theorem dX5_passOne_25 : decode cX5_passOne 25 = .ok (.ifCond .eq 13, 3) := by decide +kernel
theorem dX5_passOne_28 : decode cX5_passOne 28 = .ok (.aload_n 0, 1) := by decide +kernel
theorem dX5_passOne_29 : decode cX5_passOne 29 = .ok (.getfield 46, 3) := by decide +kernel
theorem dX5_passOne_32 : decode cX5_passOne 32 = .ok (.aload_n 0, 1) := by decide +kernel
theorem dX5_passOne_33 : decode cX5_passOne 33 = .ok (.getfield 140, 3) := by decide +kernel
theorem dX5_passOne_36 : decode cX5_passOne 36 = .ok (.iload_n 1, 1) := by decide +kernel
theorem dX5_passOne_37 : decode cX5_passOne 37 = .ok (.iastore, 1) := by decide +kernel
theorem dX5_passOne_38 : decode cX5_passOne 38 = .ok (.aload_n 0, 1) := by decide +kernel
theorem dX5_passOne_39 : decode cX5_passOne 39 = .ok (.dup, 1) := by decide +kernel
theorem dX5_passOne_40 : decode cX5_passOne 40 = .ok (.getfield 140, 3) := by decide +kernel
theorem dX5_passOne_43 : decode cX5_passOne 43 = .ok (.iconst 1, 1) := by decide +kernel
theorem dX5_passOne_44 : decode cX5_passOne 44 = .ok (.iadd, 1) := by decide +kernel
theorem dX5_passOne_45 : decode cX5_passOne 45 = .ok (.putfield 140, 3) := by decide +kernel
theorem dX5_passOne_48 : decode cX5_passOne 48 = .ok (.iload_n 2, 1) := by decide +kernel
theorem dX5_passOne_49 : decode cX5_passOne 49 = .ok (.ireturn, 1) := by decide +kernel
set_option maxRecDepth 20000 in
theorem ggX5_passesAll_X5_passes : GoodIn wsX5_passesAll wsX5_passes := goodIn_r _ [14, 2, 15, 1, 20, 21, 22, 23, 24, 25, 26, 27, 28, 29, 30, 31, 32, 33, 34, 35, 36, 37, 38, 39, 40, 41, 42, 43] (by decide +kernel) (by decide +kernel)
set_option maxRecDepth 20000 in
theorem gX5_passesAll_X5_passes : GoodIn wsX5_passesAll (wsV RX5 143 RX5 yX5_passes wsX5_passes) := goodIn_app (goodIn_of _ (by decide +kernel)) ggX5_passesAll_X5_passes
set_option maxRecDepth 20000 in
theorem ggX5_passesAll_X5_passOne : GoodIn wsX5_passesAll wsX5_passOne := goodIn_r _ [19, 2, 15, 1, 20, 21, 22, 23, 24, 25, 26, 27, 28, 29, 30, 31, 32, 33, 34, 35, 36, 37, 38, 39, 40, 41, 42, 43] (by decide +kernel) (by decide +kernel)
set_option maxRecDepth 20000 in
theorem gX5_passesAll_X5_passOne : GoodIn wsX5_passesAll (wsV RX5 147 RX5 yX5_passOne wsX5_passOne) := goodIn_app (goodIn_of _ (by decide +kernel)) ggX5_passesAll_X5_passOne
theorem dX5_passesAll_0 : decode cX5_passesAll 0 = .ok (.aload_n 0, 1) := by decide +kernel
theorem dX5_passesAll_1 : decode cX5_passesAll 1 = .ok (.bipush 43, 2) := by decide +kernel
theorem dX5_passesAll_3 : decode cX5_passesAll 3 = .ok (.iload_n 1, 1) := by decide +kernel
theorem dX5_passesAll_4 : decode cX5_passesAll 4 = .ok (.imul, 1) := by decide +kernel
theorem dX5_passesAll_5 : decode cX5_passesAll 5 = .ok (.putfield 140, 3) := by decide +kernel
theorem dX5_passesAll_8 : decode cX5_passesAll 8 = .ok (.aload_n 0, 1) := by decide +kernel
theorem dX5_passesAll_9 : decode cX5_passesAll 9 = .ok (.iload_n 2, 1) := by decide +kernel
theorem dX5_passesAll_10 : decode cX5_passesAll 10 = .ok (.putfield 136, 3) := by decide +kernel
theorem dX5_passesAll_13 : decode cX5_passesAll 13 = .ok (.aload_n 0, 1) := by decide +kernel
theorem dX5_passesAll_14 : decode cX5_passesAll 14 = .ok (.aload_n 0, 1) := by decide +kernel
theorem dX5_passesAll_15 : decode cX5_passesAll 15 = .ok (.getfield 13, 3) := by decide +kernel
theorem dX5_passesAll_18 : decode cX5_passesAll 18 = .ok (.invokevirtual 143, 3) := by decide +kernel
theorem dX5_passesAll_21 : decode cX5_passesAll 21 = .ok (.aload_n 0, 1) := by decide +kernel
theorem dX5_passesAll_22 : decode cX5_passesAll 22 = .ok (.aload_n 0, 1) := by decide +kernel
theorem dX5_passesAll_23 : decode cX5_passesAll 23 = .ok (.getfield 16, 3) := by decide +kernel
theorem dX5_passesAll_26 : decode cX5_passesAll 26 = .ok (.invokevirtual 143, 3) := by decide +kernel
theorem dX5_passesAll_29 : decode cX5_passesAll 29 = .ok (.aload_n 0, 1) := by decide +kernel
theorem dX5_passesAll_30 : decode cX5_passesAll 30 = .ok (.aload_n 0, 1) := by decide +kernel
theorem dX5_passesAll_31 : decode cX5_passesAll 31 = .ok (.getfield 19, 3) := by decide +kernel
theorem dX5_passesAll_34 : decode cX5_passesAll 34 = .ok (.invokevirtual 143, 3) := by decide +kernel
theorem dX5_passesAll_37 : decode cX5_passesAll 37 = .ok (.aload_n 0, 1) := by decide +kernel
theorem dX5_passesAll_38 : decode cX5_passesAll 38 = .ok (.aload_n 0, 1) := by decide +kernel
theorem dX5_passesAll_39 : decode cX5_passesAll 39 = .ok (.getfield 22, 3) := by decide +kernel
theorem dX5_passesAll_42 : decode cX5_passesAll 42 = .ok (.invokevirtual 143, 3) := by decide +kernel
theorem dX5_passesAll_45 : decode cX5_passesAll 45 = .ok (.aload_n 0, 1) := by decide +kernel
theorem dX5_passesAll_46 : decode cX5_passesAll 46 = .ok (.aload_n 0, 1) := by decide +kernel
theorem dX5_passesAll_47 : decode cX5_passesAll 47 = .ok (.getfield 25, 3) := by decide +kernel
theorem dX5_passesAll_50 : decode cX5_passesAll 50 = .ok (.invokevirtual 143, 3) := by decide +kernel
theorem dX5_passesAll_53 : decode cX5_passesAll 53 = .ok (.aload_n 0, 1) := by decide +kernel
theorem dX5_passesAll_54 : decode cX5_passesAll 54 = .ok (.aload_n 0, 1) := by decide +kernel
theorem dX5_passesAll_55 : decode cX5_passesAll 55 = .ok (.aload_n 0, 1) := by decide +kernel
theorem dX5_passesAll_56 : decode cX5_passesAll 56 = .ok (.getfield 57, 3) := by decide +kernel
theorem dX5_passesAll_59 : decode cX5_passesAll 59 = .ok (.invokevirtual 147, 3) := by decide +kernel
theorem dX5_passesAll_62 : decode cX5_passesAll 62 = .ok (.putfield 57, 3) := by decide +kernel
theorem dX5_passesAll_65 : decode cX5_passesAll 65 = .ok (.aload_n 0, 1) := by decide +kernel
theorem dX5_passesAll_66 : decode cX5_passesAll 66 = .ok (.aload_n 0, 1) := by decide +kernel
theorem dX5_passesAll_67 : decode cX5_passesAll 67 = .ok (.aload_n 0, 1) := by decide +kernel
theorem dX5_passesAll_68 : decode cX5_passesAll 68 = .ok (.getfield 107, 3) := by decide +kernel
theorem dX5_passesAll_71 : decode cX5_passesAll 71 = .ok (.invokevirtual 147, 3) := by decide +kernel
theorem dX5_passesAll_74 : decode cX5_passesAll 74 = .ok (.putfield 107, 3) := by decide +kernel
theorem dX5_passesAll_77 : decode cX5_passesAll 77 = .ok (.return_, 1) := by decide +kernel
set_option maxRecDepth 20000 in
theorem ggX5_image_X5_passesAll : GoodIn wsX5_image wsX5_passesAll := goodIn_r _ [7, 8, 9, 10, 11, 12, 13, 14, 15, 2, 16, 17, 18, 6, 19, 20, 21, 22, 23, 24, 25, 26, 27, 28, 29, 30, 31, 32, 33, 34, 35, 36, 37, 38, 39, 40, 41, 42, 43, 44, 45, 46, 47, 48] (by decide +kernel) (by decide +kernel)
set_option maxRecDepth 20000 in
theorem gX5_image_X5_passesAll : GoodIn wsX5_image (wsV RX5 129 RX5 yX5_passesAll wsX5_passesAll) := goodIn_app (goodIn_of _ (by decide +kernel)) ggX5_image_X5_passesAll
theorem dX5_image_0 : decode cX5_image 0 = .ok (.aload_n 0, 1) := by decide +kernel
theorem dX5_image_1 : decode cX5_image 1 = .ok (.iconst 1, 1) := by decide +kernel
theorem dX5_image_2 : decode cX5_image 2 = .ok (.putfield 150, 3) := by decide +kernel
theorem dX5_image_5 : decode cX5_image 5 = .ok (.aload_n 0, 1) := by decide +kernel
theorem dX5_image_6 : decode cX5_image 6 = .ok (.iconst 0, 1) := by decide +kernel
theorem dX5_image_7 : decode cX5_image 7 = .ok (.iconst 1, 1) := by decide +kernel
theorem dX5_image_8 : decode cX5_image 8 = .ok (.invokevirtual 129, 3) := by decide +kernel
theorem dX5_image_11 : decode cX5_image 11 = .ok (.aload_n 0, 1) := by decide +kernel
theorem dX5_image_12 : decode cX5_image 12 = .ok (.getfield 107, 3) := by decide +kernel
theorem dX5_image_15 : decode cX5_image 15 = .ok (.ireturn, 1) := by decide +kernel
set_option maxRecDepth 20000 in
theorem ggX5_back_X5_no : GoodIn wsX5_back wsX5_no := goodIn_r _ [7, 8, 30, 31, 32, 33, 34, 35, 36, 37, 38, 39, 40, 41, 42, 43, 44, 45, 46, 47, 48, 49, 50, 51, 52, 53] (by decide +kernel) (by decide +kernel)
set_option maxRecDepth 20000 in
theorem gX5_back_X5_no : GoodIn wsX5_back (wsV RX5 68 RX5 yX5_no wsX5_no) := goodIn_app (goodIn_of _ (by decide +kernel)) ggX5_back_X5_no
set_option maxRecDepth 20000 in
theorem ggX5_back_X5_passesAll : GoodIn wsX5_back wsX5_passesAll := goodIn_r _ [12, 13, 14, 15, 16, 17, 18, 19, 20, 2, 21, 22, 23, 6, 24, 25, 26, 27, 28, 29, 30, 31, 32, 33, 34, 35, 36, 37, 38, 39, 40, 41, 42, 43, 44, 45, 46, 47, 48, 49, 50, 51, 52, 53] (by decide +kernel) (by decide +kernel)
set_option maxRecDepth 20000 in
theorem gX5_back_X5_passesAll : GoodIn wsX5_back (wsV RX5 129 RX5 yX5_passesAll wsX5_passesAll) := goodIn_app (goodIn_of _ (by decide +kernel)) ggX5_back_X5_passesAll
theorem dX5_back_0 : decode cX5_back 0 = .ok (.aload_n 0, 1) := by decide +kernel
theorem dX5_back_1 : decode cX5_back 1 = .ok (.getfield 150, 3) := by decide +kernel
theorem dX5_back_4 : decode cX5_back 4 = .ok (.ifCond .ne 10, 3) := by decide +kernel
theorem dX5_back_7 : decode cX5_back 7 = .ok (.aload_n 0, 1) := by decide +kernel
theorem dX5_back_8 : decode cX5_back 8 = .ok (.bipush (-3), 2) := by decide +kernel
theorem dX5_back_10 : decode cX5_back 10 = .ok (.invokevirtual 68, 3) := by decide +kernel
theorem dX5_back_13 : decode cX5_back 13 = .ok (.ireturn, 1) := by decide +kernel
theorem dX5_back_14 : decode cX5_back 14 = .ok (.aload_n 0, 1) := by decide +kernel
theorem dX5_back_15 : decode cX5_back 15 = .ok (.iconst 0, 1) := by decide +kernel
theorem dX5_back_16 : decode cX5_back 16 = .ok (.iconst 0, 1) := by decide +kernel
theorem dX5_back_17 : decode cX5_back 17 = .ok (.invokevirtual 129, 3) := by decide +kernel
theorem dX5_back_20 : decode cX5_back 20 = .ok (.aload_n 0, 1) := by decide +kernel
theorem dX5_back_21 : decode cX5_back 21 = .ok (.getfield 107, 3) := by decide +kernel
theorem dX5_back_24 : decode cX5_back 24 = .ok (.ireturn, 1) := by decide +kernel
theorem dX5_entryOf_0 : decode cX5_entryOf 0 = .ok (.iload_n 1, 1) := by decide +kernel
theorem dX5_entryOf_1 : decode cX5_entryOf 1 = .ok (.bipush 10, 2) := by decide +kernel
theorem dX5_entryOf_3 : decode cX5_entryOf 3 = .ok (.idiv, 1) := by decide +kernel
theorem dX5_entryOf_4 : decode cX5_entryOf 4 = .ok (.istore_n 2, 1) := by decide +kernel
theorem dX5_entryOf_5 : decode cX5_entryOf 5 = .ok (.iload_n 0, 1) := by decide +kernel
theorem dX5_entryOf_6 : decode cX5_entryOf 6 = .ok (.iconst 3, 1) := by decide +kernel
theorem dX5_entryOf_7 : decode cX5_entryOf 7 = .ok (.if_icmp .ne 7, 3) := by decide +kernel
theorem dX5_entryOf_10 : decode cX5_entryOf 10 = .ok (.iconst 0, 1) := by decide +kernel
theorem dX5_entryOf_11 : decode cX5_entryOf 11 = .ok (.goto 23, 3) := by decide +kernel
theorem dX5_entryOf_14 : decode cX5_entryOf 14 = .ok (.iload_n 0, 1) := by decide +kernel
theorem dX5_entryOf_15 : decode cX5_entryOf 15 = .ok (.iconst 5, 1) := by decide +kernel
theorem dX5_entryOf_16 : decode cX5_entryOf 16 = .ok (.if_icmp .ne 17, 3) := by decide +kernel
theorem dX5_entryOf_19 : decode cX5_entryOf 19 = .ok (.iload_n 2, 1) := by decide +kernel
theorem dX5_entryOf_20 : decode cX5_entryOf 20 = .ok (.ifCond .le 9, 3) := by decide +kernel
theorem dX5_entryOf_23 : decode cX5_entryOf 23 = .ok (.iload_n 2, 1) := by decide +kernel
theorem dX5_entryOf_24 : decode cX5_entryOf 24 = .ok (.iconst 1, 1) := by decide +kernel
theorem dX5_entryOf_25 : decode cX5_entryOf 25 = .ok (.isub, 1) := by decide +kernel
theorem dX5_entryOf_26 : decode cX5_entryOf 26 = .ok (.goto 8, 3) := by decide +kernel
theorem dX5_entryOf_29 : decode cX5_entryOf 29 = .ok (.iconst 0, 1) := by decide +kernel
theorem dX5_entryOf_30 : decode cX5_entryOf 30 = .ok (.goto 4, 3) := by decide +kernel
theorem dX5_entryOf_33 : decode cX5_entryOf 33 = .ok (.iload_n 2, 1) := by decide +kernel
theorem dX5_entryOf_34 : decode cX5_entryOf 34 = .ok (.ireturn, 1) := by decide +kernel
set_option maxRecDepth 20000 in
theorem ggX5_chanceOf_X5_least : GoodIn wsX5_chanceOf wsX5_least := goodIn_r _ [6] (by decide +kernel) (by decide +kernel)
set_option maxRecDepth 20000 in
theorem gX5_chanceOf_X5_least : GoodIn wsX5_chanceOf (va_wsS RX5 153 yX5_least wsX5_least) := goodIn_app (goodIn_of _ (by decide +kernel)) ggX5_chanceOf_X5_least
theorem dX5_chanceOf_0 : decode cX5_chanceOf 0 = .ok (.aload_n 0, 1) := by decide +kernel
theorem dX5_chanceOf_1 : decode cX5_chanceOf 1 = .ok (.getfield 16, 3) := by decide +kernel
theorem dX5_chanceOf_4 : decode cX5_chanceOf 4 = .ok (.iload_n 1, 1) := by decide +kernel
theorem dX5_chanceOf_5 : decode cX5_chanceOf 5 = .ok (.iaload, 1) := by decide +kernel
theorem dX5_chanceOf_6 : decode cX5_chanceOf 6 = .ok (.bipush 10, 2) := by decide +kernel
theorem dX5_chanceOf_8 : decode cX5_chanceOf 8 = .ok (.idiv, 1) := by decide +kernel
theorem dX5_chanceOf_9 : decode cX5_chanceOf 9 = .ok (.istore_n 2, 1) := by decide +kernel
theorem dX5_chanceOf_10 : decode cX5_chanceOf 10 = .ok (.aload_n 0, 1) := by decide +kernel
theorem dX5_chanceOf_11 : decode cX5_chanceOf 11 = .ok (.getfield 13, 3) := by decide +kernel
theorem dX5_chanceOf_14 : decode cX5_chanceOf 14 = .ok (.iload_n 1, 1) := by decide +kernel
theorem dX5_chanceOf_15 : decode cX5_chanceOf 15 = .ok (.iaload, 1) := by decide +kernel
theorem dX5_chanceOf_16 : decode cX5_chanceOf 16 = .ok (.tableswitch 79 1 5 #[36, 40, 79, 49, 60], 36) := by decide +kernel
theorem dX5_chanceOf_52 : decode cX5_chanceOf 52 = .ok (.iload_n 2, 1) := by decide +kernel
theorem dX5_chanceOf_53 : decode cX5_chanceOf 53 = .ok (.iconst 2, 1) := by decide +kernel
theorem dX5_chanceOf_54 : decode cX5_chanceOf 54 = .ok (.idiv, 1) := by decide +kernel
theorem dX5_chanceOf_55 : decode cX5_chanceOf 55 = .ok (.ireturn, 1) := by decide +kernel
theorem dX5_chanceOf_56 : decode cX5_chanceOf 56 = .ok (.bipush 10, 2) := by decide +kernel
theorem dX5_chanceOf_58 : decode cX5_chanceOf 58 = .ok (.iload_n 2, 1) := by decide +kernel
theorem dX5_chanceOf_59 : decode cX5_chanceOf 59 = .ok (.iconst 3, 1) := by decide +kernel
theorem dX5_chanceOf_60 : decode cX5_chanceOf 60 = .ok (.iadd, 1) := by decide +kernel
theorem dX5_chanceOf_61 : decode cX5_chanceOf 61 = .ok (.invokestatic 153, 3) := by decide +kernel
theorem dX5_chanceOf_64 : decode cX5_chanceOf 64 = .ok (.ireturn, 1) := by decide +kernel
theorem dX5_chanceOf_65 : decode cX5_chanceOf 65 = .ok (.bipush 10, 2) := by decide +kernel
theorem dX5_chanceOf_67 : decode cX5_chanceOf 67 = .ok (.iload_n 2, 1) := by decide +kernel
theorem dX5_chanceOf_68 : decode cX5_chanceOf 68 = .ok (.iconst 3, 1) := by decide +kernel
theorem dX5_chanceOf_69 : decode cX5_chanceOf 69 = .ok (.iadd, 1) := by decide +kernel
theorem dX5_chanceOf_70 : decode cX5_chanceOf 70 = .ok (.invokestatic 153, 3) := by decide +kernel
theorem dX5_chanceOf_73 : decode cX5_chanceOf 73 = .ok (.iconst 2, 1) := by decide +kernel
theorem dX5_chanceOf_74 : decode cX5_chanceOf 74 = .ok (.isub, 1) := by decide +kernel
theorem dX5_chanceOf_75 : decode cX5_chanceOf 75 = .ok (.ireturn, 1) := by decide +kernel
theorem dX5_chanceOf_76 : decode cX5_chanceOf 76 = .ok (.aload_n 0, 1) := by decide +kernel
theorem dX5_chanceOf_77 : decode cX5_chanceOf 77 = .ok (.getfield 16, 3) := by decide +kernel
theorem dX5_chanceOf_80 : decode cX5_chanceOf 80 = .ok (.iload_n 1, 1) := by decide +kernel
theorem dX5_chanceOf_81 : decode cX5_chanceOf 81 = .ok (.iaload, 1) := by decide +kernel
theorem dX5_chanceOf_82 : decode cX5_chanceOf 82 = .ok (.bipush 50, 2) := by decide +kernel
theorem dX5_chanceOf_84 : decode cX5_chanceOf 84 = .ok (.if_icmp .ge 7, 3) := by decide +kernel
theorem dX5_chanceOf_87 : decode cX5_chanceOf 87 = .ok (.iconst 0, 1) := by decide +kernel
theorem dX5_chanceOf_88 : decode cX5_chanceOf 88 = .ok (.goto 6, 3) := by decide +kernel
theorem dX5_chanceOf_91 : decode cX5_chanceOf 91 = .ok (.iload_n 2, 1) := by decide +kernel
theorem dX5_chanceOf_92 : decode cX5_chanceOf 92 = .ok (.iconst 2, 1) := by decide +kernel
theorem dX5_chanceOf_93 : decode cX5_chanceOf 93 = .ok (.idiv, 1) := by decide +kernel
theorem dX5_chanceOf_94 : decode cX5_chanceOf 94 = .ok (.ireturn, 1) := by decide +kernel
theorem dX5_chanceOf_95 : decode cX5_chanceOf 95 = .ok (.iload_n 2, 1) := by decide +kernel
theorem dX5_chanceOf_96 : decode cX5_chanceOf 96 = .ok (.ireturn, 1) := by decide +kernel
set_option maxRecDepth 20000 in
theorem ggX5_climbs_X5_least : GoodIn wsX5_climbs wsX5_least := goodIn_r _ [4] (by decide +kernel) (by decide +kernel)
set_option maxRecDepth 20000 in
theorem gX5_climbs_X5_least : GoodIn wsX5_climbs (va_wsS RX5 153 yX5_least wsX5_least) := goodIn_app (goodIn_of _ (by decide +kernel)) ggX5_climbs_X5_least
theorem dX5_climbs_0 : decode cX5_climbs 0 = .ok (.bipush 9, 2) := by decide +kernel
theorem dX5_climbs_2 : decode cX5_climbs 2 = .ok (.iload_n 1, 1) := by decide +kernel
theorem dX5_climbs_3 : decode cX5_climbs 3 = .ok (.bipush 12, 2) := by decide +kernel
theorem dX5_climbs_5 : decode cX5_climbs 5 = .ok (.idiv, 1) := by decide +kernel
theorem dX5_climbs_6 : decode cX5_climbs 6 = .ok (.isub, 1) := by decide +kernel
theorem dX5_climbs_7 : decode cX5_climbs 7 = .ok (.istore_n 2, 1) := by decide +kernel
theorem dX5_climbs_8 : decode cX5_climbs 8 = .ok (.iload_n 0, 1) := by decide +kernel
theorem dX5_climbs_9 : decode cX5_climbs 9 = .ok (.iconst 1, 1) := by decide +kernel
theorem dX5_climbs_10 : decode cX5_climbs 10 = .ok (.if_icmp .eq 8, 3) := by decide +kernel
theorem dX5_climbs_13 : decode cX5_climbs 13 = .ok (.iload_n 0, 1) := by decide +kernel
theorem dX5_climbs_14 : decode cX5_climbs 14 = .ok (.iconst 5, 1) := by decide +kernel
theorem dX5_climbs_15 : decode cX5_climbs 15 = .ok (.if_icmp .ne 14, 3) := by decide +kernel
theorem dX5_climbs_18 : decode cX5_climbs 18 = .ok (.bipush 9, 2) := by decide +kernel
theorem dX5_climbs_20 : decode cX5_climbs 20 = .ok (.iload_n 2, 1) := by decide +kernel
theorem dX5_climbs_21 : decode cX5_climbs 21 = .ok (.iconst 2, 1) := by decide +kernel
theorem dX5_climbs_22 : decode cX5_climbs 22 = .ok (.iadd, 1) := by decide +kernel
theorem dX5_climbs_23 : decode cX5_climbs 23 = .ok (.invokestatic 153, 3) := by decide +kernel
theorem dX5_climbs_26 : decode cX5_climbs 26 = .ok (.goto 4, 3) := by decide +kernel
theorem dX5_climbs_29 : decode cX5_climbs 29 = .ok (.iload_n 2, 1) := by decide +kernel
theorem dX5_climbs_30 : decode cX5_climbs 30 = .ok (.ireturn, 1) := by decide +kernel
theorem dX5_movesOf_0 : decode cX5_movesOf 0 = .ok (.aload_n 0, 1) := by decide +kernel
theorem dX5_movesOf_1 : decode cX5_movesOf 1 = .ok (.getfield 19, 3) := by decide +kernel
theorem dX5_movesOf_4 : decode cX5_movesOf 4 = .ok (.iload_n 1, 1) := by decide +kernel
theorem dX5_movesOf_5 : decode cX5_movesOf 5 = .ok (.iaload, 1) := by decide +kernel
theorem dX5_movesOf_6 : decode cX5_movesOf 6 = .ok (.ifCond .lt 31, 3) := by decide +kernel
theorem dX5_movesOf_9 : decode cX5_movesOf 9 = .ok (.iload_n 2, 1) := by decide +kernel
theorem dX5_movesOf_10 : decode cX5_movesOf 10 = .ok (.iload_n 1, 1) := by decide +kernel
theorem dX5_movesOf_11 : decode cX5_movesOf 11 = .ok (.ishr, 1) := by decide +kernel
theorem dX5_movesOf_12 : decode cX5_movesOf 12 = .ok (.iconst 1, 1) := by decide +kernel
theorem dX5_movesOf_13 : decode cX5_movesOf 13 = .ok (.iand, 1) := by decide +kernel
theorem dX5_movesOf_14 : decode cX5_movesOf 14 = .ok (.iconst 1, 1) := by decide +kernel
theorem dX5_movesOf_15 : decode cX5_movesOf 15 = .ok (.if_icmp .eq 22, 3) := by decide +kernel
theorem dX5_movesOf_18 : decode cX5_movesOf 18 = .ok (.aload_n 0, 1) := by decide +kernel
theorem dX5_movesOf_19 : decode cX5_movesOf 19 = .ok (.getfield 13, 3) := by decide +kernel
theorem dX5_movesOf_22 : decode cX5_movesOf 22 = .ok (.iload_n 1, 1) := by decide +kernel
theorem dX5_movesOf_23 : decode cX5_movesOf 23 = .ok (.iaload, 1) := by decide +kernel
theorem dX5_movesOf_24 : decode cX5_movesOf 24 = .ok (.iconst 3, 1) := by decide +kernel
theorem dX5_movesOf_25 : decode cX5_movesOf 25 = .ok (.if_icmp .ne 14, 3) := by decide +kernel
theorem dX5_movesOf_28 : decode cX5_movesOf 28 = .ok (.aload_n 0, 1) := by decide +kernel
theorem dX5_movesOf_29 : decode cX5_movesOf 29 = .ok (.getfield 19, 3) := by decide +kernel
theorem dX5_movesOf_32 : decode cX5_movesOf 32 = .ok (.iload_n 1, 1) := by decide +kernel
theorem dX5_movesOf_33 : decode cX5_movesOf 33 = .ok (.iaload, 1) := by decide +kernel
theorem dX5_movesOf_34 : decode cX5_movesOf 34 = .ok (.ifCond .ne 5, 3) := by decide +kernel
theorem dX5_movesOf_37 : decode cX5_movesOf 37 = .ok (.iconst 0, 1) := by decide +kernel
theorem dX5_movesOf_38 : decode cX5_movesOf 38 = .ok (.ireturn, 1) := by decide +kernel
theorem dX5_movesOf_39 : decode cX5_movesOf 39 = .ok (.iconst 0, 1) := by decide +kernel
theorem dX5_movesOf_40 : decode cX5_movesOf 40 = .ok (.istore_n 3, 1) := by decide +kernel
theorem dX5_movesOf_41 : decode cX5_movesOf 41 = .ok (.iconst 0, 1) := by decide +kernel
theorem dX5_movesOf_42 : decode cX5_movesOf 42 = .ok (.istore 4, 2) := by decide +kernel
theorem dX5_movesOf_44 : decode cX5_movesOf 44 = .ok (.iload 4, 2) := by decide +kernel
theorem dX5_movesOf_46 : decode cX5_movesOf 46 = .ok (.aload_n 0, 1) := by decide +kernel
theorem dX5_movesOf_47 : decode cX5_movesOf 47 = .ok (.getfield 57, 3) := by decide +kernel
theorem dX5_movesOf_50 : decode cX5_movesOf 50 = .ok (.if_icmp .ge 43, 3) := by decide +kernel
theorem dX5_movesOf_53 : decode cX5_movesOf 53 = .ok (.iload_n 3, 1) := by decide +kernel
theorem dX5_movesOf_54 : decode cX5_movesOf 54 = .ok (.iload_n 2, 1) := by decide +kernel
theorem dX5_movesOf_55 : decode cX5_movesOf 55 = .ok (.iload 4, 2) := by decide +kernel
theorem dX5_movesOf_57 : decode cX5_movesOf 57 = .ok (.ishr, 1) := by decide +kernel
theorem dX5_movesOf_58 : decode cX5_movesOf 58 = .ok (.iconst 1, 1) := by decide +kernel
theorem dX5_movesOf_59 : decode cX5_movesOf 59 = .ok (.iand, 1) := by decide +kernel
theorem dX5_movesOf_60 : decode cX5_movesOf 60 = .ok (.iconst 1, 1) := by decide +kernel
theorem dX5_movesOf_61 : decode cX5_movesOf 61 = .ok (.if_icmp .ne 23, 3) := by decide +kernel
theorem dX5_movesOf_64 : decode cX5_movesOf 64 = .ok (.aload_n 0, 1) := by decide +kernel
theorem dX5_movesOf_65 : decode cX5_movesOf 65 = .ok (.getfield 19, 3) := by decide +kernel
theorem dX5_movesOf_68 : decode cX5_movesOf 68 = .ok (.iload 4, 2) := by decide +kernel
theorem dX5_movesOf_70 : decode cX5_movesOf 70 = .ok (.iaload, 1) := by decide +kernel
theorem dX5_movesOf_71 : decode cX5_movesOf 71 = .ok (.aload_n 0, 1) := by decide +kernel
theorem dX5_movesOf_72 : decode cX5_movesOf 72 = .ok (.getfield 19, 3) := by decide +kernel
theorem dX5_movesOf_75 : decode cX5_movesOf 75 = .ok (.iload_n 1, 1) := by decide +kernel
theorem dX5_movesOf_76 : decode cX5_movesOf 76 = .ok (.iaload, 1) := by decide +kernel
theorem dX5_movesOf_77 : decode cX5_movesOf 77 = .ok (.if_icmp .le 7, 3) := by decide +kernel
theorem dX5_movesOf_80 : decode cX5_movesOf 80 = .ok (.iconst 1, 1) := by decide +kernel
theorem dX5_movesOf_81 : decode cX5_movesOf 81 = .ok (.goto 4, 3) := by decide +kernel
theorem dX5_movesOf_84 : decode cX5_movesOf 84 = .ok (.iconst 0, 1) := by decide +kernel
theorem dX5_movesOf_85 : decode cX5_movesOf 85 = .ok (.iadd, 1) := by decide +kernel
theorem dX5_movesOf_86 : decode cX5_movesOf 86 = .ok (.istore_n 3, 1) := by decide +kernel
theorem dX5_movesOf_87 : decode cX5_movesOf 87 = .ok (.iinc 4 1, 3) := by decide +kernel
theorem dX5_movesOf_90 : decode cX5_movesOf 90 = .ok (.goto (-46), 3) := by decide +kernel
theorem dX5_movesOf_93 : decode cX5_movesOf 93 = .ok (.iload_n 3, 1) := by decide +kernel
theorem dX5_movesOf_94 : decode cX5_movesOf 94 = .ok (.ireturn, 1) := by decide +kernel
set_option maxRecDepth 20000 in
theorem ggX5_goesYear_X5_movesOf : GoodIn wsX5_goesYear wsX5_movesOf := goodIn_r _ [10, 3, 11, 1, 15, 16, 17, 18, 19, 20, 21, 22, 23, 24, 25, 26, 27, 28, 29, 30, 31, 32, 33, 34, 35, 36, 37, 38] (by decide +kernel) (by decide +kernel)
set_option maxRecDepth 20000 in
theorem gX5_goesYear_X5_movesOf : GoodIn wsX5_goesYear (wsV RX5 156 RX5 yX5_movesOf wsX5_movesOf) := goodIn_app (goodIn_of _ (by decide +kernel)) ggX5_goesYear_X5_movesOf
set_option maxRecDepth 20000 in
theorem ggX5_goesYear_X5_least : GoodIn wsX5_goesYear wsX5_least := goodIn_r _ [14] (by decide +kernel) (by decide +kernel)
set_option maxRecDepth 20000 in
theorem gX5_goesYear_X5_least : GoodIn wsX5_goesYear (va_wsS RX5 153 yX5_least wsX5_least) := goodIn_app (goodIn_of _ (by decide +kernel)) ggX5_goesYear_X5_least
theorem dX5_goesYear_0 : decode cX5_goesYear 0 = .ok (.iconst 0, 1) := by decide +kernel
theorem dX5_goesYear_1 : decode cX5_goesYear 1 = .ok (.istore_n 2, 1) := by decide +kernel
theorem dX5_goesYear_2 : decode cX5_goesYear 2 = .ok (.iconst 0, 1) := by decide +kernel
theorem dX5_goesYear_3 : decode cX5_goesYear 3 = .ok (.istore_n 3, 1) := by decide +kernel
theorem dX5_goesYear_4 : decode cX5_goesYear 4 = .ok (.iload_n 3, 1) := by decide +kernel
theorem dX5_goesYear_5 : decode cX5_goesYear 5 = .ok (.aload_n 0, 1) := by decide +kernel
theorem dX5_goesYear_6 : decode cX5_goesYear 6 = .ok (.getfield 57, 3) := by decide +kernel
theorem dX5_goesYear_9 : decode cX5_goesYear 9 = .ok (.if_icmp .ge 21, 3) := by decide +kernel
theorem dX5_goesYear_12 : decode cX5_goesYear 12 = .ok (.aload_n 0, 1) := by decide +kernel
theorem dX5_goesYear_13 : decode cX5_goesYear 13 = .ok (.getfield 49, 3) := by decide +kernel
theorem dX5_goesYear_16 : decode cX5_goesYear 16 = .ok (.iload_n 3, 1) := by decide +kernel
theorem dX5_goesYear_17 : decode cX5_goesYear 17 = .ok (.aload_n 0, 1) := by decide +kernel
theorem dX5_goesYear_18 : decode cX5_goesYear 18 = .ok (.iload_n 3, 1) := by decide +kernel
theorem dX5_goesYear_19 : decode cX5_goesYear 19 = .ok (.iload_n 1, 1) := by decide +kernel
theorem dX5_goesYear_20 : decode cX5_goesYear 20 = .ok (.invokevirtual 156, 3) := by decide +kernel
theorem dX5_goesYear_23 : decode cX5_goesYear 23 = .ok (.iastore, 1) := by decide +kernel
theorem dX5_goesYear_24 : decode cX5_goesYear 24 = .ok (.iinc 3 1, 3) := by decide +kernel
theorem dX5_goesYear_27 : decode cX5_goesYear 27 = .ok (.goto (-23), 3) := by decide +kernel
theorem dX5_goesYear_30 : decode cX5_goesYear 30 = .ok (.iconst 0, 1) := by decide +kernel
theorem dX5_goesYear_31 : decode cX5_goesYear 31 = .ok (.istore_n 3, 1) := by decide +kernel
theorem dX5_goesYear_32 : decode cX5_goesYear 32 = .ok (.iload_n 3, 1) := by decide +kernel
theorem dX5_goesYear_33 : decode cX5_goesYear 33 = .ok (.aload_n 0, 1) := by decide +kernel
theorem dX5_goesYear_34 : decode cX5_goesYear 34 = .ok (.getfield 57, 3) := by decide +kernel
theorem dX5_goesYear_37 : decode cX5_goesYear 37 = .ok (.if_icmp .ge 88, 3) := by decide +kernel
theorem dX5_goesYear_40 : decode cX5_goesYear 40 = .ok (.iload_n 1, 1) := by decide +kernel
theorem dX5_goesYear_41 : decode cX5_goesYear 41 = .ok (.iload_n 3, 1) := by decide +kernel
theorem dX5_goesYear_42 : decode cX5_goesYear 42 = .ok (.ishr, 1) := by decide +kernel
theorem dX5_goesYear_43 : decode cX5_goesYear 43 = .ok (.iconst 1, 1) := by decide +kernel
theorem dX5_goesYear_44 : decode cX5_goesYear 44 = .ok (.iand, 1) := by decide +kernel
theorem dX5_goesYear_45 : decode cX5_goesYear 45 = .ok (.iconst 1, 1) := by decide +kernel
theorem dX5_goesYear_46 : decode cX5_goesYear 46 = .ok (.if_icmp .ne 10, 3) := by decide +kernel
theorem dX5_goesYear_49 : decode cX5_goesYear 49 = .ok (.aload_n 0, 1) := by decide +kernel
theorem dX5_goesYear_50 : decode cX5_goesYear 50 = .ok (.getfield 19, 3) := by decide +kernel
theorem dX5_goesYear_53 : decode cX5_goesYear 53 = .ok (.iload_n 3, 1) := by decide +kernel
theorem dX5_goesYear_54 : decode cX5_goesYear 54 = .ok (.iconst (-1), 1) := by decide +kernel
theorem dX5_goesYear_55 : decode cX5_goesYear 55 = .ok (.iastore, 1) := by decide +kernel
theorem dX5_goesYear_56 : decode cX5_goesYear 56 = .ok (.aload_n 0, 1) := by decide +kernel
theorem dX5_goesYear_57 : decode cX5_goesYear 57 = .ok (.getfield 19, 3) := by decide +kernel
theorem dX5_goesYear_60 : decode cX5_goesYear 60 = .ok (.iload_n 3, 1) := by decide +kernel
theorem dX5_goesYear_61 : decode cX5_goesYear 61 = .ok (.iaload, 1) := by decide +kernel
theorem dX5_goesYear_62 : decode cX5_goesYear 62 = .ok (.ifCond .ge 6, 3) := by decide +kernel
theorem dX5_goesYear_65 : decode cX5_goesYear 65 = .ok (.goto 54, 3) := by decide +kernel
theorem dX5_goesYear_68 : decode cX5_goesYear 68 = .ok (.aload_n 0, 1) := by decide +kernel
theorem dX5_goesYear_69 : decode cX5_goesYear 69 = .ok (.getfield 19, 3) := by decide +kernel
theorem dX5_goesYear_72 : decode cX5_goesYear 72 = .ok (.iload_n 3, 1) := by decide +kernel
theorem dX5_goesYear_73 : decode cX5_goesYear 73 = .ok (.dup2, 1) := by decide +kernel
theorem dX5_goesYear_74 : decode cX5_goesYear 74 = .ok (.iaload, 1) := by decide +kernel
theorem dX5_goesYear_75 : decode cX5_goesYear 75 = .ok (.aload_n 0, 1) := by decide +kernel
theorem dX5_goesYear_76 : decode cX5_goesYear 76 = .ok (.getfield 49, 3) := by decide +kernel
theorem dX5_goesYear_79 : decode cX5_goesYear 79 = .ok (.iload_n 3, 1) := by decide +kernel
theorem dX5_goesYear_80 : decode cX5_goesYear 80 = .ok (.iaload, 1) := by decide +kernel
theorem dX5_goesYear_81 : decode cX5_goesYear 81 = .ok (.iadd, 1) := by decide +kernel
theorem dX5_goesYear_82 : decode cX5_goesYear 82 = .ok (.iastore, 1) := by decide +kernel
theorem dX5_goesYear_83 : decode cX5_goesYear 83 = .ok (.aload_n 0, 1) := by decide +kernel
theorem dX5_goesYear_84 : decode cX5_goesYear 84 = .ok (.getfield 16, 3) := by decide +kernel
theorem dX5_goesYear_87 : decode cX5_goesYear 87 = .ok (.iload_n 3, 1) := by decide +kernel
theorem dX5_goesYear_88 : decode cX5_goesYear 88 = .ok (.bipush 99, 2) := by decide +kernel
theorem dX5_goesYear_90 : decode cX5_goesYear 90 = .ok (.aload_n 0, 1) := by decide +kernel
theorem dX5_goesYear_91 : decode cX5_goesYear 91 = .ok (.getfield 16, 3) := by decide +kernel
theorem dX5_goesYear_94 : decode cX5_goesYear 94 = .ok (.iload_n 3, 1) := by decide +kernel
theorem dX5_goesYear_95 : decode cX5_goesYear 95 = .ok (.iaload, 1) := by decide +kernel
theorem dX5_goesYear_96 : decode cX5_goesYear 96 = .ok (.iconst 1, 1) := by decide +kernel
theorem dX5_goesYear_97 : decode cX5_goesYear 97 = .ok (.iadd, 1) := by decide +kernel
theorem dX5_goesYear_98 : decode cX5_goesYear 98 = .ok (.invokestatic 153, 3) := by decide +kernel
theorem dX5_goesYear_101 : decode cX5_goesYear 101 = .ok (.iastore, 1) := by decide +kernel
theorem dX5_goesYear_102 : decode cX5_goesYear 102 = .ok (.iload_n 2, 1) := by decide +kernel
theorem dX5_goesYear_103 : decode cX5_goesYear 103 = .ok (.aload_n 0, 1) := by decide +kernel
theorem dX5_goesYear_104 : decode cX5_goesYear 104 = .ok (.getfield 49, 3) := by decide +kernel
theorem dX5_goesYear_107 : decode cX5_goesYear 107 = .ok (.iload_n 3, 1) := by decide +kernel
theorem dX5_goesYear_108 : decode cX5_goesYear 108 = .ok (.iaload, 1) := by decide +kernel
theorem dX5_goesYear_109 : decode cX5_goesYear 109 = .ok (.ifCond .le 7, 3) := by decide +kernel
theorem dX5_goesYear_112 : decode cX5_goesYear 112 = .ok (.iconst 1, 1) := by decide +kernel
theorem dX5_goesYear_113 : decode cX5_goesYear 113 = .ok (.goto 4, 3) := by decide +kernel
theorem dX5_goesYear_116 : decode cX5_goesYear 116 = .ok (.iconst 0, 1) := by decide +kernel
theorem dX5_goesYear_117 : decode cX5_goesYear 117 = .ok (.iadd, 1) := by decide +kernel
theorem dX5_goesYear_118 : decode cX5_goesYear 118 = .ok (.istore_n 2, 1) := by decide +kernel
theorem dX5_goesYear_119 : decode cX5_goesYear 119 = .ok (.iinc 3 1, 3) := by decide +kernel
theorem dX5_goesYear_122 : decode cX5_goesYear 122 = .ok (.goto (-90), 3) := by decide +kernel
theorem dX5_goesYear_125 : decode cX5_goesYear 125 = .ok (.aload_n 0, 1) := by decide +kernel
theorem dX5_goesYear_126 : decode cX5_goesYear 126 = .ok (.dup, 1) := by decide +kernel
theorem dX5_goesYear_127 : decode cX5_goesYear 127 = .ok (.getfield 107, 3) := by decide +kernel
theorem dX5_goesYear_130 : decode cX5_goesYear 130 = .ok (.iconst 1, 1) := by decide +kernel
theorem dX5_goesYear_131 : decode cX5_goesYear 131 = .ok (.iadd, 1) := by decide +kernel
theorem dX5_goesYear_132 : decode cX5_goesYear 132 = .ok (.putfield 107, 3) := by decide +kernel
theorem dX5_goesYear_135 : decode cX5_goesYear 135 = .ok (.iload_n 2, 1) := by decide +kernel
theorem dX5_goesYear_136 : decode cX5_goesYear 136 = .ok (.ireturn, 1) := by decide +kernel
set_option maxRecDepth 20000 in
theorem ggX5_areAlive_X5_aliveBits : GoodIn wsX5_areAlive wsX5_aliveBits := goodIn_r _ [5, 6, 7, 8, 9, 10, 11, 12, 13, 14, 15, 16, 17, 18, 19, 20, 21, 22, 23, 24, 25, 26, 27, 28, 29, 30, 31] (by decide +kernel) (by decide +kernel)
set_option maxRecDepth 20000 in
theorem gX5_areAlive_X5_aliveBits : GoodIn wsX5_areAlive (wsV RX5 159 RX5 yX5_aliveBits wsX5_aliveBits) := goodIn_app (goodIn_of _ (by decide +kernel)) ggX5_areAlive_X5_aliveBits
theorem dX5_areAlive_0 : decode cX5_areAlive 0 = .ok (.iload_n 1, 1) := by decide +kernel
theorem dX5_areAlive_1 : decode cX5_areAlive 1 = .ok (.ifCond .lt 18, 3) := by decide +kernel
theorem dX5_areAlive_4 : decode cX5_areAlive 4 = .ok (.iload_n 1, 1) := by decide +kernel
theorem dX5_areAlive_5 : decode cX5_areAlive 5 = .ok (.aload_n 0, 1) := by decide +kernel
theorem dX5_areAlive_6 : decode cX5_areAlive 6 = .ok (.invokevirtual 159, 3) := by decide +kernel
theorem dX5_areAlive_9 : decode cX5_areAlive 9 = .ok (.iconst (-1), 1) := by decide +kernel
theorem dX5_areAlive_10 : decode cX5_areAlive 10 = .ok (.ixor, 1) := by decide +kernel
theorem dX5_areAlive_11 : decode cX5_areAlive 11 = .ok (.iand, 1) := by decide +kernel
theorem dX5_areAlive_12 : decode cX5_areAlive 12 = .ok (.ifCond .ne 7, 3) := by decide +kernel
theorem dX5_areAlive_15 : decode cX5_areAlive 15 = .ok (.iconst 1, 1) := by decide +kernel
theorem dX5_areAlive_16 : decode cX5_areAlive 16 = .ok (.goto 4, 3) := by decide +kernel
theorem dX5_areAlive_19 : decode cX5_areAlive 19 = .ok (.iconst 0, 1) := by decide +kernel
theorem dX5_areAlive_20 : decode cX5_areAlive 20 = .ok (.ireturn, 1) := by decide +kernel
set_option maxRecDepth 20000 in
theorem ggX5_enter_X5_isIn : GoodIn wsX5_enter wsX5_isIn := goodIn_r _ [5] (by decide +kernel) (by decide +kernel)
set_option maxRecDepth 20000 in
theorem gX5_enter_X5_isIn : GoodIn wsX5_enter (va_wsS RX5 79 yX5_isIn wsX5_isIn) := goodIn_app (goodIn_of _ (by decide +kernel)) ggX5_enter_X5_isIn
set_option maxRecDepth 20000 in
theorem ggX5_enter_X5_entryOf : GoodIn wsX5_enter wsX5_entryOf := goodIn_r _ [8] (by decide +kernel) (by decide +kernel)
set_option maxRecDepth 20000 in
theorem gX5_enter_X5_entryOf : GoodIn wsX5_enter (va_wsS RX5 113 yX5_entryOf wsX5_entryOf) := goodIn_app (goodIn_of _ (by decide +kernel)) ggX5_enter_X5_entryOf
set_option maxRecDepth 20000 in
theorem ggX5_enter_X5_whoOn : GoodIn wsX5_enter wsX5_whoOn := goodIn_r _ [12, 1, 13, 27, 28, 29, 30, 31, 32, 33, 34, 35, 36, 37, 38, 39, 40, 41, 42, 43, 44, 45, 46, 47, 48, 49, 50] (by decide +kernel) (by decide +kernel)
set_option maxRecDepth 20000 in
theorem gX5_enter_X5_whoOn : GoodIn wsX5_enter (wsV RX5 117 RX5 yX5_whoOn wsX5_whoOn) := goodIn_app (goodIn_of _ (by decide +kernel)) ggX5_enter_X5_whoOn
set_option maxRecDepth 20000 in
theorem ggX5_enter_X5_no : GoodIn wsX5_enter wsX5_no := goodIn_r _ [17, 18, 27, 28, 29, 30, 31, 32, 33, 34, 35, 36, 37, 38, 39, 40, 41, 42, 43, 44, 45, 46, 47, 48, 49, 50] (by decide +kernel) (by decide +kernel)
set_option maxRecDepth 20000 in
theorem gX5_enter_X5_no : GoodIn wsX5_enter (wsV RX5 68 RX5 yX5_no wsX5_no) := goodIn_app (goodIn_of _ (by decide +kernel)) ggX5_enter_X5_no
set_option maxRecDepth 20000 in
theorem ggX5_enter_X5_comesIn : GoodIn wsX5_enter wsX5_comesIn := goodIn_r _ [22, 1, 23, 24, 13, 25, 26, 6, 7, 4, 8, 9, 10, 11, 12, 27, 28, 29, 30, 31, 32, 33, 34, 35, 36, 37, 38, 39, 40, 41, 42, 43, 44, 45, 46, 47, 48, 49, 50] (by decide +kernel) (by decide +kernel)
set_option maxRecDepth 20000 in
theorem gX5_enter_X5_comesIn : GoodIn wsX5_enter (wsV RX5 120 RX5 yX5_comesIn wsX5_comesIn) := goodIn_app (goodIn_of _ (by decide +kernel)) ggX5_enter_X5_comesIn
theorem dX5_enter_0 : decode cX5_enter 0 = .ok (.iload_n 1, 1) := by decide +kernel
theorem dX5_enter_1 : decode cX5_enter 1 = .ok (.iconst 0, 1) := by decide +kernel
theorem dX5_enter_2 : decode cX5_enter 2 = .ok (.iconst 5, 1) := by decide +kernel
theorem dX5_enter_3 : decode cX5_enter 3 = .ok (.invokestatic 79, 3) := by decide +kernel
theorem dX5_enter_6 : decode cX5_enter 6 = .ok (.ifCond .ne 8, 3) := by decide +kernel
theorem dX5_enter_9 : decode cX5_enter 9 = .ok (.bipush (-2), 2) := by decide +kernel
theorem dX5_enter_11 : decode cX5_enter 11 = .ok (.goto 60, 3) := by decide +kernel
theorem dX5_enter_14 : decode cX5_enter 14 = .ok (.iload_n 2, 1) := by decide +kernel
theorem dX5_enter_15 : decode cX5_enter 15 = .ok (.ifCond .lt 7, 3) := by decide +kernel
theorem dX5_enter_18 : decode cX5_enter 18 = .ok (.iload_n 3, 1) := by decide +kernel
theorem dX5_enter_19 : decode cX5_enter 19 = .ok (.ifCond .ge 8, 3) := by decide +kernel
theorem dX5_enter_22 : decode cX5_enter 22 = .ok (.bipush (-4), 2) := by decide +kernel
theorem dX5_enter_24 : decode cX5_enter 24 = .ok (.goto 47, 3) := by decide +kernel
theorem dX5_enter_27 : decode cX5_enter 27 = .ok (.iload_n 2, 1) := by decide +kernel
theorem dX5_enter_28 : decode cX5_enter 28 = .ok (.bipush 99, 2) := by decide +kernel
theorem dX5_enter_30 : decode cX5_enter 30 = .ok (.if_icmp .gt 18, 3) := by decide +kernel
theorem dX5_enter_33 : decode cX5_enter 33 = .ok (.iload_n 3, 1) := by decide +kernel
theorem dX5_enter_34 : decode cX5_enter 34 = .ok (.bipush 9, 2) := by decide +kernel
theorem dX5_enter_36 : decode cX5_enter 36 = .ok (.if_icmp .gt 12, 3) := by decide +kernel
theorem dX5_enter_39 : decode cX5_enter 39 = .ok (.aload_n 0, 1) := by decide +kernel
theorem dX5_enter_40 : decode cX5_enter 40 = .ok (.getfield 57, 3) := by decide +kernel
theorem dX5_enter_43 : decode cX5_enter 43 = .ok (.bipush 8, 2) := by decide +kernel
theorem dX5_enter_45 : decode cX5_enter 45 = .ok (.if_icmp .ne 8, 3) := by decide +kernel
theorem dX5_enter_48 : decode cX5_enter 48 = .ok (.bipush (-6), 2) := by decide +kernel
theorem dX5_enter_50 : decode cX5_enter 50 = .ok (.goto 21, 3) := by decide +kernel
theorem dX5_enter_53 : decode cX5_enter 53 = .ok (.aload_n 0, 1) := by decide +kernel
theorem dX5_enter_54 : decode cX5_enter 54 = .ok (.iload_n 1, 1) := by decide +kernel
theorem dX5_enter_55 : decode cX5_enter 55 = .ok (.iload_n 2, 1) := by decide +kernel
theorem dX5_enter_56 : decode cX5_enter 56 = .ok (.invokestatic 113, 3) := by decide +kernel
theorem dX5_enter_59 : decode cX5_enter 59 = .ok (.invokevirtual 117, 3) := by decide +kernel
theorem dX5_enter_62 : decode cX5_enter 62 = .ok (.ifCond .lt 8, 3) := by decide +kernel
theorem dX5_enter_65 : decode cX5_enter 65 = .ok (.bipush (-3), 2) := by decide +kernel
theorem dX5_enter_67 : decode cX5_enter 67 = .ok (.goto 4, 3) := by decide +kernel
theorem dX5_enter_70 : decode cX5_enter 70 = .ok (.iconst 0, 1) := by decide +kernel
theorem dX5_enter_71 : decode cX5_enter 71 = .ok (.istore 4, 2) := by decide +kernel
theorem dX5_enter_73 : decode cX5_enter 73 = .ok (.iload 4, 2) := by decide +kernel
theorem dX5_enter_75 : decode cX5_enter 75 = .ok (.ifCond .eq 10, 3) := by decide +kernel
theorem dX5_enter_78 : decode cX5_enter 78 = .ok (.aload_n 0, 1) := by decide +kernel
theorem dX5_enter_79 : decode cX5_enter 79 = .ok (.iload 4, 2) := by decide +kernel
theorem dX5_enter_81 : decode cX5_enter 81 = .ok (.invokevirtual 68, 3) := by decide +kernel
theorem dX5_enter_84 : decode cX5_enter 84 = .ok (.ireturn, 1) := by decide +kernel
theorem dX5_enter_85 : decode cX5_enter 85 = .ok (.aload_n 0, 1) := by decide +kernel
theorem dX5_enter_86 : decode cX5_enter 86 = .ok (.iload_n 1, 1) := by decide +kernel
theorem dX5_enter_87 : decode cX5_enter 87 = .ok (.iload_n 2, 1) := by decide +kernel
theorem dX5_enter_88 : decode cX5_enter 88 = .ok (.iload_n 3, 1) := by decide +kernel
theorem dX5_enter_89 : decode cX5_enter 89 = .ok (.invokevirtual 120, 3) := by decide +kernel
theorem dX5_enter_92 : decode cX5_enter 92 = .ok (.pop, 1) := by decide +kernel
theorem dX5_enter_93 : decode cX5_enter 93 = .ok (.aload_n 0, 1) := by decide +kernel
theorem dX5_enter_94 : decode cX5_enter 94 = .ok (.getfield 57, 3) := by decide +kernel
theorem dX5_enter_97 : decode cX5_enter 97 = .ok (.iconst 1, 1) := by decide +kernel
theorem dX5_enter_98 : decode cX5_enter 98 = .ok (.isub, 1) := by decide +kernel
theorem dX5_enter_99 : decode cX5_enter 99 = .ok (.ireturn, 1) := by decide +kernel
set_option maxRecDepth 20000 in
theorem ggX5_lodger_X5_isAlive : GoodIn wsX5_lodger wsX5_isAlive := goodIn_r _ [10, 11, 3, 27, 28, 29, 30, 31, 32, 33, 34, 35, 36, 37, 38, 39, 40, 41, 42, 43, 44, 45, 46, 47, 48, 49, 50] (by decide +kernel) (by decide +kernel)
set_option maxRecDepth 20000 in
theorem gX5_lodger_X5_isAlive : GoodIn wsX5_lodger (wsV RX5 104 RX5 yX5_isAlive wsX5_isAlive) := goodIn_app (goodIn_of _ (by decide +kernel)) ggX5_lodger_X5_isAlive
set_option maxRecDepth 20000 in
theorem ggX5_lodger_X5_no : GoodIn wsX5_lodger wsX5_no := goodIn_r _ [15, 16, 27, 28, 29, 30, 31, 32, 33, 34, 35, 36, 37, 38, 39, 40, 41, 42, 43, 44, 45, 46, 47, 48, 49, 50] (by decide +kernel) (by decide +kernel)
set_option maxRecDepth 20000 in
theorem gX5_lodger_X5_no : GoodIn wsX5_lodger (wsV RX5 68 RX5 yX5_no wsX5_no) := goodIn_app (goodIn_of _ (by decide +kernel)) ggX5_lodger_X5_no
set_option maxRecDepth 20000 in
theorem ggX5_lodger_X5_chanceOf : GoodIn wsX5_lodger wsX5_chanceOf := goodIn_r _ [20, 2, 1, 21, 22, 9, 23, 27, 28, 29, 30, 31, 32, 33, 34, 35, 36, 37, 38, 39, 40, 41, 42, 43, 44, 45, 46, 47, 48, 49, 50] (by decide +kernel) (by decide +kernel)
set_option maxRecDepth 20000 in
theorem gX5_lodger_X5_chanceOf : GoodIn wsX5_lodger (wsV RX5 162 RX5 yX5_chanceOf wsX5_chanceOf) := goodIn_app (goodIn_of _ (by decide +kernel)) ggX5_lodger_X5_chanceOf
set_option maxRecDepth 20000 in
theorem ggX5_lodger_X5_climbs : GoodIn wsX5_lodger wsX5_climbs := goodIn_r _ [26, 21, 22, 9, 23] (by decide +kernel) (by decide +kernel)
set_option maxRecDepth 20000 in
theorem gX5_lodger_X5_climbs : GoodIn wsX5_lodger (va_wsS RX5 165 yX5_climbs wsX5_climbs) := goodIn_app (goodIn_of _ (by decide +kernel)) ggX5_lodger_X5_climbs
theorem dX5_lodger_0 : decode cX5_lodger 0 = .ok (.aload_n 0, 1) := by decide +kernel
theorem dX5_lodger_1 : decode cX5_lodger 1 = .ok (.iload_n 1, 1) := by decide +kernel
theorem dX5_lodger_2 : decode cX5_lodger 2 = .ok (.invokevirtual 104, 3) := by decide +kernel
theorem dX5_lodger_5 : decode cX5_lodger 5 = .ok (.ifCond .ne 9, 3) := by decide +kernel
theorem dX5_lodger_8 : decode cX5_lodger 8 = .ok (.aload_n 0, 1) := by decide +kernel
theorem dX5_lodger_9 : decode cX5_lodger 9 = .ok (.iconst (-1), 1) := by decide +kernel
theorem dX5_lodger_10 : decode cX5_lodger 10 = .ok (.invokevirtual 68, 3) := by decide +kernel
theorem dX5_lodger_13 : decode cX5_lodger 13 = .ok (.ireturn, 1) := by decide +kernel
theorem dX5_lodger_14 : decode cX5_lodger 14 = .ok (.iload_n 2, 1) := by decide +kernel
theorem dX5_lodger_15 : decode cX5_lodger 15 = .ok (.tableswitch 98 0 6 #[41, 48, 55, 62, 69, 75, 91], 41) := by decide +kernel
theorem dX5_lodger_56 : decode cX5_lodger 56 = .ok (.aload_n 0, 1) := by decide +kernel
theorem dX5_lodger_57 : decode cX5_lodger 57 = .ok (.getfield 13, 3) := by decide +kernel
theorem dX5_lodger_60 : decode cX5_lodger 60 = .ok (.iload_n 1, 1) := by decide +kernel
theorem dX5_lodger_61 : decode cX5_lodger 61 = .ok (.iaload, 1) := by decide +kernel
theorem dX5_lodger_62 : decode cX5_lodger 62 = .ok (.ireturn, 1) := by decide +kernel
theorem dX5_lodger_63 : decode cX5_lodger 63 = .ok (.aload_n 0, 1) := by decide +kernel
theorem dX5_lodger_64 : decode cX5_lodger 64 = .ok (.getfield 16, 3) := by decide +kernel
theorem dX5_lodger_67 : decode cX5_lodger 67 = .ok (.iload_n 1, 1) := by decide +kernel
theorem dX5_lodger_68 : decode cX5_lodger 68 = .ok (.iaload, 1) := by decide +kernel
theorem dX5_lodger_69 : decode cX5_lodger 69 = .ok (.ireturn, 1) := by decide +kernel
theorem dX5_lodger_70 : decode cX5_lodger 70 = .ok (.aload_n 0, 1) := by decide +kernel
theorem dX5_lodger_71 : decode cX5_lodger 71 = .ok (.getfield 19, 3) := by decide +kernel
theorem dX5_lodger_74 : decode cX5_lodger 74 = .ok (.iload_n 1, 1) := by decide +kernel
theorem dX5_lodger_75 : decode cX5_lodger 75 = .ok (.iaload, 1) := by decide +kernel
theorem dX5_lodger_76 : decode cX5_lodger 76 = .ok (.ireturn, 1) := by decide +kernel
theorem dX5_lodger_77 : decode cX5_lodger 77 = .ok (.aload_n 0, 1) := by decide +kernel
theorem dX5_lodger_78 : decode cX5_lodger 78 = .ok (.getfield 22, 3) := by decide +kernel
theorem dX5_lodger_81 : decode cX5_lodger 81 = .ok (.iload_n 1, 1) := by decide +kernel
theorem dX5_lodger_82 : decode cX5_lodger 82 = .ok (.iaload, 1) := by decide +kernel
theorem dX5_lodger_83 : decode cX5_lodger 83 = .ok (.ireturn, 1) := by decide +kernel
theorem dX5_lodger_84 : decode cX5_lodger 84 = .ok (.aload_n 0, 1) := by decide +kernel
theorem dX5_lodger_85 : decode cX5_lodger 85 = .ok (.iload_n 1, 1) := by decide +kernel
theorem dX5_lodger_86 : decode cX5_lodger 86 = .ok (.invokevirtual 162, 3) := by decide +kernel
theorem dX5_lodger_89 : decode cX5_lodger 89 = .ok (.ireturn, 1) := by decide +kernel
theorem dX5_lodger_90 : decode cX5_lodger 90 = .ok (.aload_n 0, 1) := by decide +kernel
theorem dX5_lodger_91 : decode cX5_lodger 91 = .ok (.getfield 13, 3) := by decide +kernel
theorem dX5_lodger_94 : decode cX5_lodger 94 = .ok (.iload_n 1, 1) := by decide +kernel
theorem dX5_lodger_95 : decode cX5_lodger 95 = .ok (.iaload, 1) := by decide +kernel
theorem dX5_lodger_96 : decode cX5_lodger 96 = .ok (.aload_n 0, 1) := by decide +kernel
theorem dX5_lodger_97 : decode cX5_lodger 97 = .ok (.getfield 16, 3) := by decide +kernel
theorem dX5_lodger_100 : decode cX5_lodger 100 = .ok (.iload_n 1, 1) := by decide +kernel
theorem dX5_lodger_101 : decode cX5_lodger 101 = .ok (.iaload, 1) := by decide +kernel
theorem dX5_lodger_102 : decode cX5_lodger 102 = .ok (.invokestatic 165, 3) := by decide +kernel
theorem dX5_lodger_105 : decode cX5_lodger 105 = .ok (.ireturn, 1) := by decide +kernel
theorem dX5_lodger_106 : decode cX5_lodger 106 = .ok (.aload_n 0, 1) := by decide +kernel
theorem dX5_lodger_107 : decode cX5_lodger 107 = .ok (.getfield 25, 3) := by decide +kernel
theorem dX5_lodger_110 : decode cX5_lodger 110 = .ok (.iload_n 1, 1) := by decide +kernel
theorem dX5_lodger_111 : decode cX5_lodger 111 = .ok (.iaload, 1) := by decide +kernel
theorem dX5_lodger_112 : decode cX5_lodger 112 = .ok (.ireturn, 1) := by decide +kernel
theorem dX5_lodger_113 : decode cX5_lodger 113 = .ok (.aload_n 0, 1) := by decide +kernel
theorem dX5_lodger_114 : decode cX5_lodger 114 = .ok (.bipush (-2), 2) := by decide +kernel
theorem dX5_lodger_116 : decode cX5_lodger 116 = .ok (.invokevirtual 68, 3) := by decide +kernel
theorem dX5_lodger_119 : decode cX5_lodger 119 = .ok (.ireturn, 1) := by decide +kernel
set_option maxRecDepth 20000 in
theorem ggX5_wish_X5_isAlive : GoodIn wsX5_wish wsX5_isAlive := goodIn_r _ [6, 7, 8, 17, 18, 19, 20, 21, 22, 23, 24, 25, 26, 27, 28, 29, 30, 31, 32, 33, 34, 35, 36, 37, 38, 39, 40] (by decide +kernel) (by decide +kernel)
set_option maxRecDepth 20000 in
theorem gX5_wish_X5_isAlive : GoodIn wsX5_wish (wsV RX5 104 RX5 yX5_isAlive wsX5_isAlive) := goodIn_app (goodIn_of _ (by decide +kernel)) ggX5_wish_X5_isAlive
set_option maxRecDepth 20000 in
theorem ggX5_wish_X5_isFloor : GoodIn wsX5_wish wsX5_isFloor := goodIn_r _ [11] (by decide +kernel) (by decide +kernel)
set_option maxRecDepth 20000 in
theorem gX5_wish_X5_isFloor : GoodIn wsX5_wish (va_wsS RX5 168 yX5_isFloor wsX5_isFloor) := goodIn_app (goodIn_of _ (by decide +kernel)) ggX5_wish_X5_isFloor
set_option maxRecDepth 20000 in
theorem ggX5_wish_X5_no : GoodIn wsX5_wish wsX5_no := goodIn_r _ [15, 16, 17, 18, 19, 20, 21, 22, 23, 24, 25, 26, 27, 28, 29, 30, 31, 32, 33, 34, 35, 36, 37, 38, 39, 40] (by decide +kernel) (by decide +kernel)
set_option maxRecDepth 20000 in
theorem gX5_wish_X5_no : GoodIn wsX5_wish (wsV RX5 68 RX5 yX5_no wsX5_no) := goodIn_app (goodIn_of _ (by decide +kernel)) ggX5_wish_X5_no
theorem dX5_wish_0 : decode cX5_wish 0 = .ok (.aload_n 0, 1) := by decide +kernel
theorem dX5_wish_1 : decode cX5_wish 1 = .ok (.iload_n 1, 1) := by decide +kernel
theorem dX5_wish_2 : decode cX5_wish 2 = .ok (.invokevirtual 104, 3) := by decide +kernel
theorem dX5_wish_5 : decode cX5_wish 5 = .ok (.ifCond .eq 15, 3) := by decide +kernel
theorem dX5_wish_8 : decode cX5_wish 8 = .ok (.iload_n 2, 1) := by decide +kernel
theorem dX5_wish_9 : decode cX5_wish 9 = .ok (.iconst (-1), 1) := by decide +kernel
theorem dX5_wish_10 : decode cX5_wish 10 = .ok (.if_icmp .eq 16, 3) := by decide +kernel
theorem dX5_wish_13 : decode cX5_wish 13 = .ok (.iload_n 2, 1) := by decide +kernel
theorem dX5_wish_14 : decode cX5_wish 14 = .ok (.invokestatic 168, 3) := by decide +kernel
theorem dX5_wish_17 : decode cX5_wish 17 = .ok (.ifCond .ne 9, 3) := by decide +kernel
theorem dX5_wish_20 : decode cX5_wish 20 = .ok (.aload_n 0, 1) := by decide +kernel
theorem dX5_wish_21 : decode cX5_wish 21 = .ok (.iconst (-1), 1) := by decide +kernel
theorem dX5_wish_22 : decode cX5_wish 22 = .ok (.invokevirtual 68, 3) := by decide +kernel
theorem dX5_wish_25 : decode cX5_wish 25 = .ok (.ireturn, 1) := by decide +kernel
theorem dX5_wish_26 : decode cX5_wish 26 = .ok (.aload_n 0, 1) := by decide +kernel
theorem dX5_wish_27 : decode cX5_wish 27 = .ok (.getfield 25, 3) := by decide +kernel
theorem dX5_wish_30 : decode cX5_wish 30 = .ok (.iload_n 1, 1) := by decide +kernel
theorem dX5_wish_31 : decode cX5_wish 31 = .ok (.iaload, 1) := by decide +kernel
theorem dX5_wish_32 : decode cX5_wish 32 = .ok (.istore_n 3, 1) := by decide +kernel
theorem dX5_wish_33 : decode cX5_wish 33 = .ok (.aload_n 0, 1) := by decide +kernel
theorem dX5_wish_34 : decode cX5_wish 34 = .ok (.getfield 25, 3) := by decide +kernel
theorem dX5_wish_37 : decode cX5_wish 37 = .ok (.iload_n 1, 1) := by decide +kernel
theorem dX5_wish_38 : decode cX5_wish 38 = .ok (.iload_n 2, 1) := by decide +kernel
theorem dX5_wish_39 : decode cX5_wish 39 = .ok (.ifCond .ge 8, 3) := by decide +kernel
theorem dX5_wish_42 : decode cX5_wish 42 = .ok (.bipush (-9), 2) := by decide +kernel
theorem dX5_wish_44 : decode cX5_wish 44 = .ok (.goto 4, 3) := by decide +kernel
theorem dX5_wish_47 : decode cX5_wish 47 = .ok (.iload_n 2, 1) := by decide +kernel
theorem dX5_wish_48 : decode cX5_wish 48 = .ok (.iastore, 1) := by decide +kernel
theorem dX5_wish_49 : decode cX5_wish 49 = .ok (.iload_n 3, 1) := by decide +kernel
theorem dX5_wish_50 : decode cX5_wish 50 = .ok (.ireturn, 1) := by decide +kernel
set_option maxRecDepth 20000 in
theorem ggX5_year_X5_areAlive : GoodIn wsX5_year wsX5_areAlive := goodIn_r _ [6, 7, 8, 9, 5, 10, 11, 12, 32, 33, 34, 35, 36, 37, 38, 39, 40, 41, 42, 43, 44, 45, 46, 47, 48, 49, 50, 51, 52, 53, 54, 55] (by decide +kernel) (by decide +kernel)
set_option maxRecDepth 20000 in
theorem gX5_year_X5_areAlive : GoodIn wsX5_year (wsV RX5 171 RX5 yX5_areAlive wsX5_areAlive) := goodIn_app (goodIn_of _ (by decide +kernel)) ggX5_year_X5_areAlive
set_option maxRecDepth 20000 in
theorem ggX5_year_X5_no : GoodIn wsX5_year wsX5_no := goodIn_r _ [16, 17, 32, 33, 34, 35, 36, 37, 38, 39, 40, 41, 42, 43, 44, 45, 46, 47, 48, 49, 50, 51, 52, 53, 54, 55] (by decide +kernel) (by decide +kernel)
set_option maxRecDepth 20000 in
theorem gX5_year_X5_no : GoodIn wsX5_year (wsV RX5 68 RX5 yX5_no wsX5_no) := goodIn_app (goodIn_of _ (by decide +kernel)) ggX5_year_X5_no
set_option maxRecDepth 20000 in
theorem ggX5_year_X5_goesYear : GoodIn wsX5_year wsX5_goesYear := goodIn_r _ [21, 11, 22, 12, 23, 1, 24, 25, 26, 5, 27, 28, 29, 30, 31, 32, 33, 34, 35, 36, 37, 38, 39, 40, 41, 42, 43, 44, 45, 46, 47, 48, 49, 50, 51, 52, 53, 54, 55] (by decide +kernel) (by decide +kernel)
set_option maxRecDepth 20000 in
theorem gX5_year_X5_goesYear : GoodIn wsX5_year (wsV RX5 110 RX5 yX5_goesYear wsX5_goesYear) := goodIn_app (goodIn_of _ (by decide +kernel)) ggX5_year_X5_goesYear
theorem dX5_year_0 : decode cX5_year 0 = .ok (.aload_n 0, 1) := by decide +kernel
theorem dX5_year_1 : decode cX5_year 1 = .ok (.iload_n 1, 1) := by decide +kernel
theorem dX5_year_2 : decode cX5_year 2 = .ok (.invokevirtual 171, 3) := by decide +kernel
theorem dX5_year_5 : decode cX5_year 5 = .ok (.ifCond .ne 9, 3) := by decide +kernel
theorem dX5_year_8 : decode cX5_year 8 = .ok (.aload_n 0, 1) := by decide +kernel
theorem dX5_year_9 : decode cX5_year 9 = .ok (.iconst (-1), 1) := by decide +kernel
theorem dX5_year_10 : decode cX5_year 10 = .ok (.invokevirtual 68, 3) := by decide +kernel
theorem dX5_year_13 : decode cX5_year 13 = .ok (.ireturn, 1) := by decide +kernel
theorem dX5_year_14 : decode cX5_year 14 = .ok (.aload_n 0, 1) := by decide +kernel
theorem dX5_year_15 : decode cX5_year 15 = .ok (.getfield 107, 3) := by decide +kernel
theorem dX5_year_18 : decode cX5_year 18 = .ok (.bipush 99, 2) := by decide +kernel
theorem dX5_year_20 : decode cX5_year 20 = .ok (.if_icmp .ne 12, 3) := by decide +kernel
theorem dX5_year_23 : decode cX5_year 23 = .ok (.aload_n 0, 1) := by decide +kernel
theorem dX5_year_24 : decode cX5_year 24 = .ok (.bipush (-6), 2) := by decide +kernel
theorem dX5_year_26 : decode cX5_year 26 = .ok (.invokevirtual 68, 3) := by decide +kernel
theorem dX5_year_29 : decode cX5_year 29 = .ok (.goto 8, 3) := by decide +kernel
theorem dX5_year_32 : decode cX5_year 32 = .ok (.aload_n 0, 1) := by decide +kernel
theorem dX5_year_33 : decode cX5_year 33 = .ok (.iload_n 1, 1) := by decide +kernel
theorem dX5_year_34 : decode cX5_year 34 = .ok (.invokevirtual 110, 3) := by decide +kernel
theorem dX5_year_37 : decode cX5_year 37 = .ok (.ireturn, 1) := by decide +kernel
set_option maxRecDepth 20000 in
theorem ggX5_on_X5_isFloor : GoodIn wsX5_on wsX5_isFloor := goodIn_r _ [4] (by decide +kernel) (by decide +kernel)
set_option maxRecDepth 20000 in
theorem gX5_on_X5_isFloor : GoodIn wsX5_on (va_wsS RX5 168 yX5_isFloor wsX5_isFloor) := goodIn_app (goodIn_of _ (by decide +kernel)) ggX5_on_X5_isFloor
set_option maxRecDepth 20000 in
theorem ggX5_on_X5_whoOn : GoodIn wsX5_on wsX5_whoOn := goodIn_r _ [8, 9, 10, 16, 17, 18, 19, 20, 21, 22, 23, 24, 25, 26, 27, 28, 29, 30, 31, 32, 33, 34, 35, 36, 37, 38, 39] (by decide +kernel) (by decide +kernel)
set_option maxRecDepth 20000 in
theorem gX5_on_X5_whoOn : GoodIn wsX5_on (wsV RX5 117 RX5 yX5_whoOn wsX5_whoOn) := goodIn_app (goodIn_of _ (by decide +kernel)) ggX5_on_X5_whoOn
set_option maxRecDepth 20000 in
theorem ggX5_on_X5_no : GoodIn wsX5_on wsX5_no := goodIn_r _ [14, 15, 16, 17, 18, 19, 20, 21, 22, 23, 24, 25, 26, 27, 28, 29, 30, 31, 32, 33, 34, 35, 36, 37, 38, 39] (by decide +kernel) (by decide +kernel)
set_option maxRecDepth 20000 in
theorem gX5_on_X5_no : GoodIn wsX5_on (wsV RX5 68 RX5 yX5_no wsX5_no) := goodIn_app (goodIn_of _ (by decide +kernel)) ggX5_on_X5_no
theorem dX5_on_0 : decode cX5_on 0 = .ok (.iload_n 1, 1) := by decide +kernel
theorem dX5_on_1 : decode cX5_on 1 = .ok (.invokestatic 168, 3) := by decide +kernel
theorem dX5_on_4 : decode cX5_on 4 = .ok (.ifCond .eq 11, 3) := by decide +kernel
theorem dX5_on_7 : decode cX5_on 7 = .ok (.aload_n 0, 1) := by decide +kernel
theorem dX5_on_8 : decode cX5_on 8 = .ok (.iload_n 1, 1) := by decide +kernel
theorem dX5_on_9 : decode cX5_on 9 = .ok (.invokevirtual 117, 3) := by decide +kernel
theorem dX5_on_12 : decode cX5_on 12 = .ok (.goto 8, 3) := by decide +kernel
theorem dX5_on_15 : decode cX5_on 15 = .ok (.aload_n 0, 1) := by decide +kernel
theorem dX5_on_16 : decode cX5_on 16 = .ok (.iconst (-1), 1) := by decide +kernel
theorem dX5_on_17 : decode cX5_on 17 = .ok (.invokevirtual 68, 3) := by decide +kernel
theorem dX5_on_20 : decode cX5_on 20 = .ok (.ireturn, 1) := by decide +kernel
set_option maxRecDepth 20000 in
theorem ggX5_partsOf_X5_chanceOf : GoodIn wsX5_partsOf wsX5_chanceOf := goodIn_r _ [8, 9, 10, 11, 12, 7, 13, 14, 15, 16, 17, 18, 19, 20, 21, 22, 23, 24, 25, 26, 27, 28, 29, 30, 31, 32, 33, 34, 35, 36, 37] (by decide +kernel) (by decide +kernel)
set_option maxRecDepth 20000 in
theorem gX5_partsOf_X5_chanceOf : GoodIn wsX5_partsOf (wsV RX5 162 RX5 yX5_chanceOf wsX5_chanceOf) := goodIn_app (goodIn_of _ (by decide +kernel)) ggX5_partsOf_X5_chanceOf
theorem dX5_partsOf_0 : decode cX5_partsOf 0 = .ok (.lconst 1, 1) := by decide +kernel
theorem dX5_partsOf_1 : decode cX5_partsOf 1 = .ok (.lstore_n 2, 1) := by decide +kernel
theorem dX5_partsOf_2 : decode cX5_partsOf 2 = .ok (.iconst 0, 1) := by decide +kernel
theorem dX5_partsOf_3 : decode cX5_partsOf 3 = .ok (.istore 4, 2) := by decide +kernel
theorem dX5_partsOf_5 : decode cX5_partsOf 5 = .ok (.iload 4, 2) := by decide +kernel
theorem dX5_partsOf_7 : decode cX5_partsOf 7 = .ok (.aload_n 0, 1) := by decide +kernel
theorem dX5_partsOf_8 : decode cX5_partsOf 8 = .ok (.getfield 57, 3) := by decide +kernel
theorem dX5_partsOf_11 : decode cX5_partsOf 11 = .ok (.if_icmp .ge 58, 3) := by decide +kernel
theorem dX5_partsOf_14 : decode cX5_partsOf 14 = .ok (.lload_n 2, 1) := by decide +kernel
theorem dX5_partsOf_15 : decode cX5_partsOf 15 = .ok (.aload_n 0, 1) := by decide +kernel
theorem dX5_partsOf_16 : decode cX5_partsOf 16 = .ok (.getfield 19, 3) := by decide +kernel
theorem dX5_partsOf_19 : decode cX5_partsOf 19 = .ok (.iload 4, 2) := by decide +kernel
theorem dX5_partsOf_21 : decode cX5_partsOf 21 = .ok (.iaload, 1) := by decide +kernel
theorem dX5_partsOf_22 : decode cX5_partsOf 22 = .ok (.ifCond .ge 9, 3) := by decide +kernel
theorem dX5_partsOf_25 : decode cX5_partsOf 25 = .ok (.ldc2_w 174, 3) := by decide +kernel
theorem dX5_partsOf_28 : decode cX5_partsOf 28 = .ok (.goto 33, 3) := by decide +kernel
theorem dX5_partsOf_31 : decode cX5_partsOf 31 = .ok (.iload_n 1, 1) := by decide +kernel
theorem dX5_partsOf_32 : decode cX5_partsOf 32 = .ok (.iload 4, 2) := by decide +kernel
theorem dX5_partsOf_34 : decode cX5_partsOf 34 = .ok (.ishr, 1) := by decide +kernel
theorem dX5_partsOf_35 : decode cX5_partsOf 35 = .ok (.iconst 1, 1) := by decide +kernel
theorem dX5_partsOf_36 : decode cX5_partsOf 36 = .ok (.iand, 1) := by decide +kernel
theorem dX5_partsOf_37 : decode cX5_partsOf 37 = .ok (.iconst 1, 1) := by decide +kernel
theorem dX5_partsOf_38 : decode cX5_partsOf 38 = .ok (.if_icmp .ne 13, 3) := by decide +kernel
theorem dX5_partsOf_41 : decode cX5_partsOf 41 = .ok (.aload_n 0, 1) := by decide +kernel
theorem dX5_partsOf_42 : decode cX5_partsOf 42 = .ok (.iload 4, 2) := by decide +kernel
theorem dX5_partsOf_44 : decode cX5_partsOf 44 = .ok (.invokevirtual 162, 3) := by decide +kernel
theorem dX5_partsOf_47 : decode cX5_partsOf 47 = .ok (.i2l, 1) := by decide +kernel
theorem dX5_partsOf_48 : decode cX5_partsOf 48 = .ok (.goto 13, 3) := by decide +kernel
theorem dX5_partsOf_51 : decode cX5_partsOf 51 = .ok (.bipush 10, 2) := by decide +kernel
theorem dX5_partsOf_53 : decode cX5_partsOf 53 = .ok (.aload_n 0, 1) := by decide +kernel
theorem dX5_partsOf_54 : decode cX5_partsOf 54 = .ok (.iload 4, 2) := by decide +kernel
theorem dX5_partsOf_56 : decode cX5_partsOf 56 = .ok (.invokevirtual 162, 3) := by decide +kernel
theorem dX5_partsOf_59 : decode cX5_partsOf 59 = .ok (.isub, 1) := by decide +kernel
theorem dX5_partsOf_60 : decode cX5_partsOf 60 = .ok (.i2l, 1) := by decide +kernel
theorem dX5_partsOf_61 : decode cX5_partsOf 61 = .ok (.lmul, 1) := by decide +kernel
theorem dX5_partsOf_62 : decode cX5_partsOf 62 = .ok (.lstore_n 2, 1) := by decide +kernel
theorem dX5_partsOf_63 : decode cX5_partsOf 63 = .ok (.iinc 4 1, 3) := by decide +kernel
theorem dX5_partsOf_66 : decode cX5_partsOf 66 = .ok (.goto (-61), 3) := by decide +kernel
theorem dX5_partsOf_69 : decode cX5_partsOf 69 = .ok (.lload_n 2, 1) := by decide +kernel
theorem dX5_partsOf_70 : decode cX5_partsOf 70 = .ok (.lreturn, 1) := by decide +kernel
theorem dX5_divisor_0 : decode cX5_divisor 0 = .ok (.lload_n 0, 1) := by decide +kernel
theorem dX5_divisor_1 : decode cX5_divisor 1 = .ok (.lstore 4, 2) := by decide +kernel
theorem dX5_divisor_3 : decode cX5_divisor 3 = .ok (.lload_n 2, 1) := by decide +kernel
theorem dX5_divisor_4 : decode cX5_divisor 4 = .ok (.lstore 6, 2) := by decide +kernel
theorem dX5_divisor_6 : decode cX5_divisor 6 = .ok (.lload 6, 2) := by decide +kernel
theorem dX5_divisor_8 : decode cX5_divisor 8 = .ok (.lconst 0, 1) := by decide +kernel
theorem dX5_divisor_9 : decode cX5_divisor 9 = .ok (.lcmp, 1) := by decide +kernel
theorem dX5_divisor_10 : decode cX5_divisor 10 = .ok (.ifCond .eq 21, 3) := by decide +kernel
theorem dX5_divisor_13 : decode cX5_divisor 13 = .ok (.lload 4, 2) := by decide +kernel
theorem dX5_divisor_15 : decode cX5_divisor 15 = .ok (.lload 6, 2) := by decide +kernel
theorem dX5_divisor_17 : decode cX5_divisor 17 = .ok (.lrem, 1) := by decide +kernel
theorem dX5_divisor_18 : decode cX5_divisor 18 = .ok (.lstore 8, 2) := by decide +kernel
theorem dX5_divisor_20 : decode cX5_divisor 20 = .ok (.lload 6, 2) := by decide +kernel
theorem dX5_divisor_22 : decode cX5_divisor 22 = .ok (.lstore 4, 2) := by decide +kernel
theorem dX5_divisor_24 : decode cX5_divisor 24 = .ok (.lload 8, 2) := by decide +kernel
theorem dX5_divisor_26 : decode cX5_divisor 26 = .ok (.lstore 6, 2) := by decide +kernel
theorem dX5_divisor_28 : decode cX5_divisor 28 = .ok (.goto (-22), 3) := by decide +kernel
theorem dX5_divisor_31 : decode cX5_divisor 31 = .ok (.lload 4, 2) := by decide +kernel
theorem dX5_divisor_33 : decode cX5_divisor 33 = .ok (.lreturn, 1) := by decide +kernel
set_option maxRecDepth 20000 in
theorem ggX5_partsTo_X5_areAlive : GoodIn wsX5_partsTo wsX5_areAlive := goodIn_r _ [7, 8, 9, 10, 6, 11, 1, 2, 53, 54, 55, 56, 57, 58, 59, 60, 61, 62, 63, 64, 65, 66, 67, 68, 69, 70, 71, 72, 73, 74, 75, 76] (by decide +kernel) (by decide +kernel)
set_option maxRecDepth 20000 in
theorem gX5_partsTo_X5_areAlive : GoodIn wsX5_partsTo (wsV RX5 171 RX5 yX5_areAlive wsX5_areAlive) := goodIn_app (goodIn_of _ (by decide +kernel)) ggX5_partsTo_X5_areAlive
set_option maxRecDepth 20000 in
theorem ggX5_partsTo_X5_partsOf : GoodIn wsX5_partsTo wsX5_partsOf := goodIn_r _ [15, 1, 2, 16, 17, 18, 19, 6, 20, 21, 22, 23, 24, 25, 53, 54, 55, 56, 57, 58, 59, 60, 61, 62, 63, 64, 65, 66, 67, 68, 69, 70, 71, 72, 73, 74, 75, 76] (by decide +kernel) (by decide +kernel)
set_option maxRecDepth 20000 in
theorem gX5_partsTo_X5_partsOf : GoodIn wsX5_partsTo (wsV RX5 176 RX5 yX5_partsOf wsX5_partsOf) := goodIn_app (goodIn_of _ (by decide +kernel)) ggX5_partsTo_X5_partsOf
set_option maxRecDepth 20000 in
theorem ggX5_partsTo_X5_passesAll : GoodIn wsX5_partsTo wsX5_passesAll := goodIn_r _ [29, 30, 31, 22, 21, 2, 32, 33, 1, 34, 35, 36, 37, 6, 38, 39, 40, 41, 42, 43, 53, 54, 55, 56, 57, 58, 59, 60, 61, 62, 63, 64, 65, 66, 67, 68, 69, 70, 71, 72, 73, 74, 75, 76] (by decide +kernel) (by decide +kernel)
set_option maxRecDepth 20000 in
theorem gX5_partsTo_X5_passesAll : GoodIn wsX5_partsTo (wsV RX5 129 RX5 yX5_passesAll wsX5_passesAll) := goodIn_app (goodIn_of _ (by decide +kernel)) ggX5_partsTo_X5_passesAll
set_option maxRecDepth 20000 in
theorem ggX5_partsTo_X5_goesYear : GoodIn wsX5_partsTo wsX5_goesYear := goodIn_r _ [47, 1, 48, 2, 21, 34, 49, 50, 51, 6, 52, 22, 23, 24, 25, 53, 54, 55, 56, 57, 58, 59, 60, 61, 62, 63, 64, 65, 66, 67, 68, 69, 70, 71, 72, 73, 74, 75, 76] (by decide +kernel) (by decide +kernel)
set_option maxRecDepth 20000 in
theorem gX5_partsTo_X5_goesYear : GoodIn wsX5_partsTo (wsV RX5 110 RX5 yX5_goesYear wsX5_goesYear) := goodIn_app (goodIn_of _ (by decide +kernel)) ggX5_partsTo_X5_goesYear
theorem dX5_partsTo_0 : decode cX5_partsTo 0 = .ok (.lconst 0, 1) := by decide +kernel
theorem dX5_partsTo_1 : decode cX5_partsTo 1 = .ok (.lstore 4, 2) := by decide +kernel
theorem dX5_partsTo_3 : decode cX5_partsTo 3 = .ok (.iconst 0, 1) := by decide +kernel
theorem dX5_partsTo_4 : decode cX5_partsTo 4 = .ok (.istore 6, 2) := by decide +kernel
theorem dX5_partsTo_6 : decode cX5_partsTo 6 = .ok (.iload 6, 2) := by decide +kernel
theorem dX5_partsTo_8 : decode cX5_partsTo 8 = .ok (.iconst 1, 1) := by decide +kernel
theorem dX5_partsTo_9 : decode cX5_partsTo 9 = .ok (.aload_n 0, 1) := by decide +kernel
theorem dX5_partsTo_10 : decode cX5_partsTo 10 = .ok (.getfield 57, 3) := by decide +kernel
theorem dX5_partsTo_13 : decode cX5_partsTo 13 = .ok (.ishl, 1) := by decide +kernel
theorem dX5_partsTo_14 : decode cX5_partsTo 14 = .ok (.if_icmp .ge 75, 3) := by decide +kernel
theorem dX5_partsTo_17 : decode cX5_partsTo 17 = .ok (.aload_n 0, 1) := by decide +kernel
theorem dX5_partsTo_18 : decode cX5_partsTo 18 = .ok (.iload 6, 2) := by decide +kernel
theorem dX5_partsTo_20 : decode cX5_partsTo 20 = .ok (.invokevirtual 171, 3) := by decide +kernel
theorem dX5_partsTo_23 : decode cX5_partsTo 23 = .ok (.ifCond .ne 6, 3) := by decide +kernel
theorem dX5_partsTo_26 : decode cX5_partsTo 26 = .ok (.goto 57, 3) := by decide +kernel
theorem dX5_partsTo_29 : decode cX5_partsTo 29 = .ok (.aload_n 0, 1) := by decide +kernel
theorem dX5_partsTo_30 : decode cX5_partsTo 30 = .ok (.iload 6, 2) := by decide +kernel
theorem dX5_partsTo_32 : decode cX5_partsTo 32 = .ok (.invokevirtual 176, 3) := by decide +kernel
theorem dX5_partsTo_35 : decode cX5_partsTo 35 = .ok (.lstore 7, 2) := by decide +kernel
theorem dX5_partsTo_37 : decode cX5_partsTo 37 = .ok (.lload 7, 2) := by decide +kernel
theorem dX5_partsTo_39 : decode cX5_partsTo 39 = .ok (.lconst 0, 1) := by decide +kernel
theorem dX5_partsTo_40 : decode cX5_partsTo 40 = .ok (.lcmp, 1) := by decide +kernel
theorem dX5_partsTo_41 : decode cX5_partsTo 41 = .ok (.ifCond .ne 6, 3) := by decide +kernel
theorem dX5_partsTo_44 : decode cX5_partsTo 44 = .ok (.goto 39, 3) := by decide +kernel
theorem dX5_partsTo_47 : decode cX5_partsTo 47 = .ok (.aload_n 0, 1) := by decide +kernel
theorem dX5_partsTo_48 : decode cX5_partsTo 48 = .ok (.iload_n 3, 1) := by decide +kernel
theorem dX5_partsTo_49 : decode cX5_partsTo 49 = .ok (.iconst 1, 1) := by decide +kernel
theorem dX5_partsTo_50 : decode cX5_partsTo 50 = .ok (.invokevirtual 129, 3) := by decide +kernel
theorem dX5_partsTo_53 : decode cX5_partsTo 53 = .ok (.aload_n 0, 1) := by decide +kernel
theorem dX5_partsTo_54 : decode cX5_partsTo 54 = .ok (.iload 6, 2) := by decide +kernel
theorem dX5_partsTo_56 : decode cX5_partsTo 56 = .ok (.invokevirtual 110, 3) := by decide +kernel
theorem dX5_partsTo_59 : decode cX5_partsTo 59 = .ok (.pop, 1) := by decide +kernel
theorem dX5_partsTo_60 : decode cX5_partsTo 60 = .ok (.aload_n 0, 1) := by decide +kernel
theorem dX5_partsTo_61 : decode cX5_partsTo 61 = .ok (.getfield 19, 3) := by decide +kernel
theorem dX5_partsTo_64 : decode cX5_partsTo 64 = .ok (.iload_n 1, 1) := by decide +kernel
theorem dX5_partsTo_65 : decode cX5_partsTo 65 = .ok (.iaload, 1) := by decide +kernel
theorem dX5_partsTo_66 : decode cX5_partsTo 66 = .ok (.iload_n 2, 1) := by decide +kernel
theorem dX5_partsTo_67 : decode cX5_partsTo 67 = .ok (.if_icmp .lt 10, 3) := by decide +kernel
theorem dX5_partsTo_70 : decode cX5_partsTo 70 = .ok (.lload 4, 2) := by decide +kernel
theorem dX5_partsTo_72 : decode cX5_partsTo 72 = .ok (.lload 7, 2) := by decide +kernel
theorem dX5_partsTo_74 : decode cX5_partsTo 74 = .ok (.ladd, 1) := by decide +kernel
theorem dX5_partsTo_75 : decode cX5_partsTo 75 = .ok (.lstore 4, 2) := by decide +kernel
theorem dX5_partsTo_77 : decode cX5_partsTo 77 = .ok (.aload_n 0, 1) := by decide +kernel
theorem dX5_partsTo_78 : decode cX5_partsTo 78 = .ok (.iload_n 3, 1) := by decide +kernel
theorem dX5_partsTo_79 : decode cX5_partsTo 79 = .ok (.iconst 0, 1) := by decide +kernel
theorem dX5_partsTo_80 : decode cX5_partsTo 80 = .ok (.invokevirtual 129, 3) := by decide +kernel
theorem dX5_partsTo_83 : decode cX5_partsTo 83 = .ok (.iinc 6 1, 3) := by decide +kernel
theorem dX5_partsTo_86 : decode cX5_partsTo 86 = .ok (.goto (-80), 3) := by decide +kernel
theorem dX5_partsTo_89 : decode cX5_partsTo 89 = .ok (.lload 4, 2) := by decide +kernel
theorem dX5_partsTo_91 : decode cX5_partsTo 91 = .ok (.lreturn, 1) := by decide +kernel
set_option maxRecDepth 20000 in
theorem ggX5_partsInTwo_X5_areAlive : GoodIn wsX5_partsInTwo wsX5_areAlive := goodIn_r _ [6, 7, 8, 9, 5, 10, 1, 11, 57, 58, 59, 60, 61, 62, 63, 64, 65, 66, 67, 68, 69, 70, 71, 72, 73, 74, 75, 76, 77, 78, 79, 80] (by decide +kernel) (by decide +kernel)
set_option maxRecDepth 20000 in
theorem gX5_partsInTwo_X5_areAlive : GoodIn wsX5_partsInTwo (wsV RX5 171 RX5 yX5_areAlive wsX5_areAlive) := goodIn_app (goodIn_of _ (by decide +kernel)) ggX5_partsInTwo_X5_areAlive
set_option maxRecDepth 20000 in
theorem ggX5_partsInTwo_X5_partsOf : GoodIn wsX5_partsInTwo wsX5_partsOf := goodIn_r _ [15, 1, 11, 16, 17, 18, 19, 5, 20, 21, 22, 23, 24, 25, 57, 58, 59, 60, 61, 62, 63, 64, 65, 66, 67, 68, 69, 70, 71, 72, 73, 74, 75, 76, 77, 78, 79, 80] (by decide +kernel) (by decide +kernel)
set_option maxRecDepth 20000 in
theorem gX5_partsInTwo_X5_partsOf : GoodIn wsX5_partsInTwo (wsV RX5 176 RX5 yX5_partsOf wsX5_partsOf) := goodIn_app (goodIn_of _ (by decide +kernel)) ggX5_partsInTwo_X5_partsOf
set_option maxRecDepth 20000 in
theorem ggX5_partsInTwo_X5_passesAll : GoodIn wsX5_partsInTwo wsX5_passesAll := goodIn_r _ [29, 30, 31, 22, 21, 11, 32, 33, 1, 34, 35, 36, 37, 5, 38, 39, 40, 41, 42, 43, 57, 58, 59, 60, 61, 62, 63, 64, 65, 66, 67, 68, 69, 70, 71, 72, 73, 74, 75, 76, 77, 78, 79, 80] (by decide +kernel) (by decide +kernel)
set_option maxRecDepth 20000 in
theorem gX5_partsInTwo_X5_passesAll : GoodIn wsX5_partsInTwo (wsV RX5 129 RX5 yX5_passesAll wsX5_passesAll) := goodIn_app (goodIn_of _ (by decide +kernel)) ggX5_partsInTwo_X5_passesAll
set_option maxRecDepth 20000 in
theorem ggX5_partsInTwo_X5_goesYear : GoodIn wsX5_partsInTwo wsX5_goesYear := goodIn_r _ [47, 1, 48, 11, 21, 34, 49, 50, 51, 5, 52, 22, 23, 24, 25, 57, 58, 59, 60, 61, 62, 63, 64, 65, 66, 67, 68, 69, 70, 71, 72, 73, 74, 75, 76, 77, 78, 79, 80] (by decide +kernel) (by decide +kernel)
set_option maxRecDepth 20000 in
theorem gX5_partsInTwo_X5_goesYear : GoodIn wsX5_partsInTwo (wsV RX5 110 RX5 yX5_goesYear wsX5_goesYear) := goodIn_app (goodIn_of _ (by decide +kernel)) ggX5_partsInTwo_X5_goesYear
set_option maxRecDepth 20000 in
theorem ggX5_partsInTwo_X5_partsTo : GoodIn wsX5_partsInTwo wsX5_partsTo := goodIn_r _ [56, 1, 11, 2, 3, 4, 5, 6, 7, 8, 9, 10, 12, 13, 14, 15, 16, 17, 18, 19, 20, 21, 22, 23, 24, 25, 26, 27, 28, 29, 30, 31, 32, 33, 34, 35, 36, 37, 38, 39, 40, 41, 42, 43, 44, 45, 46, 47, 48, 49, 50, 51, 52, 57, 58, 59, 60, 61, 62, 63, 64, 65, 66, 67, 68, 69, 70, 71, 72, 73, 74, 75, 76, 77, 78, 79, 80] (by decide +kernel) (by decide +kernel)
set_option maxRecDepth 20000 in
theorem gX5_partsInTwo_X5_partsTo : GoodIn wsX5_partsInTwo (wsV RX5 180 RX5 yX5_partsTo wsX5_partsTo) := goodIn_app (goodIn_of _ (by decide +kernel)) ggX5_partsInTwo_X5_partsTo
theorem dX5_partsInTwo_0 : decode cX5_partsInTwo 0 = .ok (.lconst 0, 1) := by decide +kernel
theorem dX5_partsInTwo_1 : decode cX5_partsInTwo 1 = .ok (.lstore_n 3, 1) := by decide +kernel
theorem dX5_partsInTwo_2 : decode cX5_partsInTwo 2 = .ok (.iconst 0, 1) := by decide +kernel
theorem dX5_partsInTwo_3 : decode cX5_partsInTwo 3 = .ok (.istore 5, 2) := by decide +kernel
theorem dX5_partsInTwo_5 : decode cX5_partsInTwo 5 = .ok (.iload 5, 2) := by decide +kernel
theorem dX5_partsInTwo_7 : decode cX5_partsInTwo 7 = .ok (.iconst 1, 1) := by decide +kernel
theorem dX5_partsInTwo_8 : decode cX5_partsInTwo 8 = .ok (.aload_n 0, 1) := by decide +kernel
theorem dX5_partsInTwo_9 : decode cX5_partsInTwo 9 = .ok (.getfield 57, 3) := by decide +kernel
theorem dX5_partsInTwo_12 : decode cX5_partsInTwo 12 = .ok (.ishl, 1) := by decide +kernel
theorem dX5_partsInTwo_13 : decode cX5_partsInTwo 13 = .ok (.if_icmp .ge 71, 3) := by decide +kernel
theorem dX5_partsInTwo_16 : decode cX5_partsInTwo 16 = .ok (.aload_n 0, 1) := by decide +kernel
theorem dX5_partsInTwo_17 : decode cX5_partsInTwo 17 = .ok (.iload 5, 2) := by decide +kernel
theorem dX5_partsInTwo_19 : decode cX5_partsInTwo 19 = .ok (.invokevirtual 171, 3) := by decide +kernel
theorem dX5_partsInTwo_22 : decode cX5_partsInTwo 22 = .ok (.ifCond .ne 6, 3) := by decide +kernel
theorem dX5_partsInTwo_25 : decode cX5_partsInTwo 25 = .ok (.goto 53, 3) := by decide +kernel
theorem dX5_partsInTwo_28 : decode cX5_partsInTwo 28 = .ok (.aload_n 0, 1) := by decide +kernel
theorem dX5_partsInTwo_29 : decode cX5_partsInTwo 29 = .ok (.iload 5, 2) := by decide +kernel
theorem dX5_partsInTwo_31 : decode cX5_partsInTwo 31 = .ok (.invokevirtual 176, 3) := by decide +kernel
theorem dX5_partsInTwo_34 : decode cX5_partsInTwo 34 = .ok (.lstore 6, 2) := by decide +kernel
theorem dX5_partsInTwo_36 : decode cX5_partsInTwo 36 = .ok (.lload 6, 2) := by decide +kernel
theorem dX5_partsInTwo_38 : decode cX5_partsInTwo 38 = .ok (.lconst 0, 1) := by decide +kernel
theorem dX5_partsInTwo_39 : decode cX5_partsInTwo 39 = .ok (.lcmp, 1) := by decide +kernel
theorem dX5_partsInTwo_40 : decode cX5_partsInTwo 40 = .ok (.ifCond .ne 6, 3) := by decide +kernel
theorem dX5_partsInTwo_43 : decode cX5_partsInTwo 43 = .ok (.goto 35, 3) := by decide +kernel
theorem dX5_partsInTwo_46 : decode cX5_partsInTwo 46 = .ok (.aload_n 0, 1) := by decide +kernel
theorem dX5_partsInTwo_47 : decode cX5_partsInTwo 47 = .ok (.iconst 1, 1) := by decide +kernel
theorem dX5_partsInTwo_48 : decode cX5_partsInTwo 48 = .ok (.iconst 1, 1) := by decide +kernel
theorem dX5_partsInTwo_49 : decode cX5_partsInTwo 49 = .ok (.invokevirtual 129, 3) := by decide +kernel
theorem dX5_partsInTwo_52 : decode cX5_partsInTwo 52 = .ok (.aload_n 0, 1) := by decide +kernel
theorem dX5_partsInTwo_53 : decode cX5_partsInTwo 53 = .ok (.iload 5, 2) := by decide +kernel
theorem dX5_partsInTwo_55 : decode cX5_partsInTwo 55 = .ok (.invokevirtual 110, 3) := by decide +kernel
theorem dX5_partsInTwo_58 : decode cX5_partsInTwo 58 = .ok (.pop, 1) := by decide +kernel
theorem dX5_partsInTwo_59 : decode cX5_partsInTwo 59 = .ok (.lload_n 3, 1) := by decide +kernel
theorem dX5_partsInTwo_60 : decode cX5_partsInTwo 60 = .ok (.lload 6, 2) := by decide +kernel
theorem dX5_partsInTwo_62 : decode cX5_partsInTwo 62 = .ok (.aload_n 0, 1) := by decide +kernel
theorem dX5_partsInTwo_63 : decode cX5_partsInTwo 63 = .ok (.iload_n 1, 1) := by decide +kernel
theorem dX5_partsInTwo_64 : decode cX5_partsInTwo 64 = .ok (.iload_n 2, 1) := by decide +kernel
theorem dX5_partsInTwo_65 : decode cX5_partsInTwo 65 = .ok (.iconst 2, 1) := by decide +kernel
theorem dX5_partsInTwo_66 : decode cX5_partsInTwo 66 = .ok (.invokevirtual 180, 3) := by decide +kernel
theorem dX5_partsInTwo_69 : decode cX5_partsInTwo 69 = .ok (.lmul, 1) := by decide +kernel
theorem dX5_partsInTwo_70 : decode cX5_partsInTwo 70 = .ok (.ladd, 1) := by decide +kernel
theorem dX5_partsInTwo_71 : decode cX5_partsInTwo 71 = .ok (.lstore_n 3, 1) := by decide +kernel
theorem dX5_partsInTwo_72 : decode cX5_partsInTwo 72 = .ok (.aload_n 0, 1) := by decide +kernel
theorem dX5_partsInTwo_73 : decode cX5_partsInTwo 73 = .ok (.iconst 1, 1) := by decide +kernel
theorem dX5_partsInTwo_74 : decode cX5_partsInTwo 74 = .ok (.iconst 0, 1) := by decide +kernel
theorem dX5_partsInTwo_75 : decode cX5_partsInTwo 75 = .ok (.invokevirtual 129, 3) := by decide +kernel
theorem dX5_partsInTwo_78 : decode cX5_partsInTwo 78 = .ok (.iinc 5 1, 3) := by decide +kernel
theorem dX5_partsInTwo_81 : decode cX5_partsInTwo 81 = .ok (.goto (-76), 3) := by decide +kernel
theorem dX5_partsInTwo_84 : decode cX5_partsInTwo 84 = .ok (.lload_n 3, 1) := by decide +kernel
theorem dX5_partsInTwo_85 : decode cX5_partsInTwo 85 = .ok (.lreturn, 1) := by decide +kernel
set_option maxRecDepth 20000 in
theorem ggX5_likely_X5_isAlive : GoodIn wsX5_likely wsX5_isAlive := goodIn_r _ [7, 1, 8, 83, 84, 85, 86, 87, 88, 89, 90, 91, 92, 93, 94, 95, 96, 97, 98, 99, 100, 101, 102, 103, 104, 105, 106] (by decide +kernel) (by decide +kernel)
set_option maxRecDepth 20000 in
theorem gX5_likely_X5_isAlive : GoodIn wsX5_likely (wsV RX5 104 RX5 yX5_isAlive wsX5_isAlive) := goodIn_app (goodIn_of _ (by decide +kernel)) ggX5_likely_X5_isAlive
set_option maxRecDepth 20000 in
theorem ggX5_likely_X5_isFloor : GoodIn wsX5_likely wsX5_isFloor := goodIn_r _ [11] (by decide +kernel) (by decide +kernel)
set_option maxRecDepth 20000 in
theorem gX5_likely_X5_isFloor : GoodIn wsX5_likely (va_wsS RX5 168 yX5_isFloor wsX5_isFloor) := goodIn_app (goodIn_of _ (by decide +kernel)) ggX5_likely_X5_isFloor
set_option maxRecDepth 20000 in
theorem ggX5_likely_X5_lowest : GoodIn wsX5_likely wsX5_lowest := goodIn_r _ [15, 16, 17, 83, 84, 85, 86, 87, 88, 89, 90, 91, 92, 93, 94, 95, 96, 97, 98, 99, 100, 101, 102, 103, 104, 105, 106] (by decide +kernel) (by decide +kernel)
set_option maxRecDepth 20000 in
theorem gX5_likely_X5_lowest : GoodIn wsX5_likely (wsV RX5 184 RX5 yX5_lowest wsX5_lowest) := goodIn_app (goodIn_of _ (by decide +kernel)) ggX5_likely_X5_lowest
set_option maxRecDepth 20000 in
theorem ggX5_likely_X5_bound : GoodIn wsX5_likely wsX5_bound := goodIn_r _ [20] (by decide +kernel) (by decide +kernel)
set_option maxRecDepth 20000 in
theorem gX5_likely_X5_bound : GoodIn wsX5_likely (va_wsS RX5 61 yX5_bound wsX5_bound) := goodIn_app (goodIn_of _ (by decide +kernel)) ggX5_likely_X5_bound
set_option maxRecDepth 20000 in
theorem ggX5_likely_X5_isIn : GoodIn wsX5_likely wsX5_isIn := goodIn_r _ [23] (by decide +kernel) (by decide +kernel)
set_option maxRecDepth 20000 in
theorem gX5_likely_X5_isIn : GoodIn wsX5_likely (va_wsS RX5 79 yX5_isIn wsX5_isIn) := goodIn_app (goodIn_of _ (by decide +kernel)) ggX5_likely_X5_isIn
set_option maxRecDepth 20000 in
theorem ggX5_likely_X5_partsTo : GoodIn wsX5_likely wsX5_partsTo := goodIn_r _ [27, 1, 8, 28, 29, 30, 6, 31, 32, 33, 34, 35, 36, 37, 38, 39, 2, 40, 41, 42, 43, 44, 45, 46, 47, 48, 49, 50, 51, 52, 53, 54, 55, 56, 57, 58, 59, 60, 61, 62, 63, 64, 65, 66, 67, 68, 69, 70, 71, 72, 73, 74, 75, 83, 84, 85, 86, 87, 88, 89, 90, 91, 92, 93, 94, 95, 96, 97, 98, 99, 100, 101, 102, 103, 104, 105, 106] (by decide +kernel) (by decide +kernel)
set_option maxRecDepth 20000 in
theorem gX5_likely_X5_partsTo : GoodIn wsX5_likely (wsV RX5 180 RX5 yX5_partsTo wsX5_partsTo) := goodIn_app (goodIn_of _ (by decide +kernel)) ggX5_likely_X5_partsTo
set_option maxRecDepth 20000 in
theorem ggX5_likely_X5_partsInTwo : GoodIn wsX5_likely wsX5_partsInTwo := goodIn_r _ [79, 1, 28, 29, 30, 6, 31, 32, 33, 34, 35, 8, 36, 37, 38, 39, 2, 40, 41, 42, 43, 44, 45, 46, 47, 48, 49, 50, 51, 52, 53, 54, 55, 56, 57, 58, 59, 60, 61, 62, 63, 64, 65, 66, 67, 68, 69, 70, 71, 72, 73, 74, 75, 24, 25, 26, 27, 83, 84, 85, 86, 87, 88, 89, 90, 91, 92, 93, 94, 95, 96, 97, 98, 99, 100, 101, 102, 103, 104, 105, 106] (by decide +kernel) (by decide +kernel)
set_option maxRecDepth 20000 in
theorem gX5_likely_X5_partsInTwo : GoodIn wsX5_likely (wsV RX5 187 RX5 yX5_partsInTwo wsX5_partsInTwo) := goodIn_app (goodIn_of _ (by decide +kernel)) ggX5_likely_X5_partsInTwo
set_option maxRecDepth 20000 in
theorem ggX5_likely_X5_divisor : GoodIn wsX5_likely wsX5_divisor := goodIn_r _ [82] (by decide +kernel) (by decide +kernel)
set_option maxRecDepth 20000 in
theorem gX5_likely_X5_divisor : GoodIn wsX5_likely (va_wsS RX5 191 yX5_divisor wsX5_divisor) := goodIn_app (goodIn_of _ (by decide +kernel)) ggX5_likely_X5_divisor
theorem dX5_likely_0 : decode cX5_likely 0 = .ok (.aload_n 0, 1) := by decide +kernel
theorem dX5_likely_1 : decode cX5_likely 1 = .ok (.iload_n 1, 1) := by decide +kernel
theorem dX5_likely_2 : decode cX5_likely 2 = .ok (.invokevirtual 104, 3) := by decide +kernel
theorem dX5_likely_5 : decode cX5_likely 5 = .ok (.ifCond .eq 10, 3) := by decide +kernel
theorem dX5_likely_8 : decode cX5_likely 8 = .ok (.iload_n 2, 1) := by decide +kernel
theorem dX5_likely_9 : decode cX5_likely 9 = .ok (.invokestatic 168, 3) := by decide +kernel
theorem dX5_likely_12 : decode cX5_likely 12 = .ok (.ifCond .ne 9, 3) := by decide +kernel
theorem dX5_likely_15 : decode cX5_likely 15 = .ok (.aload_n 0, 1) := by decide +kernel
theorem dX5_likely_16 : decode cX5_likely 16 = .ok (.iconst (-1), 1) := by decide +kernel
theorem dX5_likely_17 : decode cX5_likely 17 = .ok (.invokevirtual 184, 3) := by decide +kernel
theorem dX5_likely_20 : decode cX5_likely 20 = .ok (.lreturn, 1) := by decide +kernel
theorem dX5_likely_21 : decode cX5_likely 21 = .ok (.iload_n 3, 1) := by decide +kernel
theorem dX5_likely_22 : decode cX5_likely 22 = .ok (.iconst 1, 1) := by decide +kernel
theorem dX5_likely_23 : decode cX5_likely 23 = .ok (.iconst 2, 1) := by decide +kernel
theorem dX5_likely_24 : decode cX5_likely 24 = .ok (.invokestatic 61, 3) := by decide +kernel
theorem dX5_likely_27 : decode cX5_likely 27 = .ok (.istore 5, 2) := by decide +kernel
theorem dX5_likely_29 : decode cX5_likely 29 = .ok (.iload 5, 2) := by decide +kernel
theorem dX5_likely_31 : decode cX5_likely 31 = .ok (.ifCond .ne 17, 3) := by decide +kernel
theorem dX5_likely_34 : decode cX5_likely 34 = .ok (.iload 4, 2) := by decide +kernel
theorem dX5_likely_36 : decode cX5_likely 36 = .ok (.iconst 0, 1) := by decide +kernel
theorem dX5_likely_37 : decode cX5_likely 37 = .ok (.iconst 1, 1) := by decide +kernel
theorem dX5_likely_38 : decode cX5_likely 38 = .ok (.invokestatic 79, 3) := by decide +kernel
theorem dX5_likely_41 : decode cX5_likely 41 = .ok (.ifCond .ne 7, 3) := by decide +kernel
theorem dX5_likely_44 : decode cX5_likely 44 = .ok (.bipush (-2), 2) := by decide +kernel
theorem dX5_likely_46 : decode cX5_likely 46 = .ok (.istore 5, 2) := by decide +kernel
theorem dX5_likely_48 : decode cX5_likely 48 = .ok (.iload 5, 2) := by decide +kernel
theorem dX5_likely_50 : decode cX5_likely 50 = .ok (.ifCond .eq 10, 3) := by decide +kernel
theorem dX5_likely_53 : decode cX5_likely 53 = .ok (.aload_n 0, 1) := by decide +kernel
theorem dX5_likely_54 : decode cX5_likely 54 = .ok (.iload 5, 2) := by decide +kernel
theorem dX5_likely_56 : decode cX5_likely 56 = .ok (.invokevirtual 184, 3) := by decide +kernel
theorem dX5_likely_59 : decode cX5_likely 59 = .ok (.lreturn, 1) := by decide +kernel
theorem dX5_likely_60 : decode cX5_likely 60 = .ok (.lconst 1, 1) := by decide +kernel
theorem dX5_likely_61 : decode cX5_likely 61 = .ok (.lstore 6, 2) := by decide +kernel
theorem dX5_likely_63 : decode cX5_likely 63 = .ok (.iconst 0, 1) := by decide +kernel
theorem dX5_likely_64 : decode cX5_likely 64 = .ok (.istore 8, 2) := by decide +kernel
theorem dX5_likely_66 : decode cX5_likely 66 = .ok (.iload 8, 2) := by decide +kernel
theorem dX5_likely_68 : decode cX5_likely 68 = .ok (.iload_n 3, 1) := by decide +kernel
theorem dX5_likely_69 : decode cX5_likely 69 = .ok (.aload_n 0, 1) := by decide +kernel
theorem dX5_likely_70 : decode cX5_likely 70 = .ok (.getfield 57, 3) := by decide +kernel
theorem dX5_likely_73 : decode cX5_likely 73 = .ok (.imul, 1) := by decide +kernel
theorem dX5_likely_74 : decode cX5_likely 74 = .ok (.if_icmp .ge 17, 3) := by decide +kernel
theorem dX5_likely_77 : decode cX5_likely 77 = .ok (.lload 6, 2) := by decide +kernel
theorem dX5_likely_79 : decode cX5_likely 79 = .ok (.ldc2_w 174, 3) := by decide +kernel
theorem dX5_likely_82 : decode cX5_likely 82 = .ok (.lmul, 1) := by decide +kernel
theorem dX5_likely_83 : decode cX5_likely 83 = .ok (.lstore 6, 2) := by decide +kernel
theorem dX5_likely_85 : decode cX5_likely 85 = .ok (.iinc 8 1, 3) := by decide +kernel
theorem dX5_likely_88 : decode cX5_likely 88 = .ok (.goto (-22), 3) := by decide +kernel
theorem dX5_likely_91 : decode cX5_likely 91 = .ok (.iload_n 3, 1) := by decide +kernel
theorem dX5_likely_92 : decode cX5_likely 92 = .ok (.iconst 1, 1) := by decide +kernel
theorem dX5_likely_93 : decode cX5_likely 93 = .ok (.if_icmp .ne 13, 3) := by decide +kernel
theorem dX5_likely_96 : decode cX5_likely 96 = .ok (.aload_n 0, 1) := by decide +kernel
theorem dX5_likely_97 : decode cX5_likely 97 = .ok (.iload_n 1, 1) := by decide +kernel
theorem dX5_likely_98 : decode cX5_likely 98 = .ok (.iload_n 2, 1) := by decide +kernel
theorem dX5_likely_99 : decode cX5_likely 99 = .ok (.iconst 1, 1) := by decide +kernel
theorem dX5_likely_100 : decode cX5_likely 100 = .ok (.invokevirtual 180, 3) := by decide +kernel
theorem dX5_likely_103 : decode cX5_likely 103 = .ok (.goto 9, 3) := by decide +kernel
theorem dX5_likely_106 : decode cX5_likely 106 = .ok (.aload_n 0, 1) := by decide +kernel
theorem dX5_likely_107 : decode cX5_likely 107 = .ok (.iload_n 1, 1) := by decide +kernel
theorem dX5_likely_108 : decode cX5_likely 108 = .ok (.iload_n 2, 1) := by decide +kernel
theorem dX5_likely_109 : decode cX5_likely 109 = .ok (.invokevirtual 187, 3) := by decide +kernel
theorem dX5_likely_112 : decode cX5_likely 112 = .ok (.lstore 8, 2) := by decide +kernel
theorem dX5_likely_114 : decode cX5_likely 114 = .ok (.iload 4, 2) := by decide +kernel
theorem dX5_likely_116 : decode cX5_likely 116 = .ok (.ifCond .ne 8, 3) := by decide +kernel
theorem dX5_likely_119 : decode cX5_likely 119 = .ok (.lload 8, 2) := by decide +kernel
theorem dX5_likely_121 : decode cX5_likely 121 = .ok (.goto 5, 3) := by decide +kernel
theorem dX5_likely_124 : decode cX5_likely 124 = .ok (.lload 6, 2) := by decide +kernel
theorem dX5_likely_126 : decode cX5_likely 126 = .ok (.lload 8, 2) := by decide +kernel
theorem dX5_likely_128 : decode cX5_likely 128 = .ok (.lload 6, 2) := by decide +kernel
theorem dX5_likely_130 : decode cX5_likely 130 = .ok (.invokestatic 191, 3) := by decide +kernel
theorem dX5_likely_133 : decode cX5_likely 133 = .ok (.ldiv, 1) := by decide +kernel
theorem dX5_likely_134 : decode cX5_likely 134 = .ok (.lreturn, 1) := by decide +kernel
set_option maxRecDepth 20000 in
theorem ggX5_mean_X5_chanceOf : GoodIn wsX5_mean wsX5_chanceOf := goodIn_r _ [7, 8, 9, 10, 11, 6, 12, 13, 14, 15, 16, 17, 18, 19, 20, 21, 22, 23, 24, 25, 26, 27, 28, 29, 30, 31, 32, 33, 34, 35, 36] (by decide +kernel) (by decide +kernel)
set_option maxRecDepth 20000 in
theorem gX5_mean_X5_chanceOf : GoodIn wsX5_mean (wsV RX5 162 RX5 yX5_chanceOf wsX5_chanceOf) := goodIn_app (goodIn_of _ (by decide +kernel)) ggX5_mean_X5_chanceOf
theorem dX5_mean_0 : decode cX5_mean 0 = .ok (.iconst 0, 1) := by decide +kernel
theorem dX5_mean_1 : decode cX5_mean 1 = .ok (.istore_n 1, 1) := by decide +kernel
theorem dX5_mean_2 : decode cX5_mean 2 = .ok (.iconst 0, 1) := by decide +kernel
theorem dX5_mean_3 : decode cX5_mean 3 = .ok (.istore_n 2, 1) := by decide +kernel
theorem dX5_mean_4 : decode cX5_mean 4 = .ok (.iload_n 2, 1) := by decide +kernel
theorem dX5_mean_5 : decode cX5_mean 5 = .ok (.aload_n 0, 1) := by decide +kernel
theorem dX5_mean_6 : decode cX5_mean 6 = .ok (.getfield 57, 3) := by decide +kernel
theorem dX5_mean_9 : decode cX5_mean 9 = .ok (.if_icmp .ge 30, 3) := by decide +kernel
theorem dX5_mean_12 : decode cX5_mean 12 = .ok (.iload_n 1, 1) := by decide +kernel
theorem dX5_mean_13 : decode cX5_mean 13 = .ok (.aload_n 0, 1) := by decide +kernel
theorem dX5_mean_14 : decode cX5_mean 14 = .ok (.getfield 19, 3) := by decide +kernel
theorem dX5_mean_17 : decode cX5_mean 17 = .ok (.iload_n 2, 1) := by decide +kernel
theorem dX5_mean_18 : decode cX5_mean 18 = .ok (.iaload, 1) := by decide +kernel
theorem dX5_mean_19 : decode cX5_mean 19 = .ok (.ifCond .ge 7, 3) := by decide +kernel
theorem dX5_mean_22 : decode cX5_mean 22 = .ok (.iconst 0, 1) := by decide +kernel
theorem dX5_mean_23 : decode cX5_mean 23 = .ok (.goto 8, 3) := by decide +kernel
theorem dX5_mean_26 : decode cX5_mean 26 = .ok (.aload_n 0, 1) := by decide +kernel
theorem dX5_mean_27 : decode cX5_mean 27 = .ok (.iload_n 2, 1) := by decide +kernel
theorem dX5_mean_28 : decode cX5_mean 28 = .ok (.invokevirtual 162, 3) := by decide +kernel
theorem dX5_mean_31 : decode cX5_mean 31 = .ok (.iadd, 1) := by decide +kernel
theorem dX5_mean_32 : decode cX5_mean 32 = .ok (.istore_n 1, 1) := by decide +kernel
theorem dX5_mean_33 : decode cX5_mean 33 = .ok (.iinc 2 1, 3) := by decide +kernel
theorem dX5_mean_36 : decode cX5_mean 36 = .ok (.goto (-32), 3) := by decide +kernel
theorem dX5_mean_39 : decode cX5_mean 39 = .ok (.iload_n 1, 1) := by decide +kernel
theorem dX5_mean_40 : decode cX5_mean 40 = .ok (.ireturn, 1) := by decide +kernel
set_option maxRecDepth 20000 in
theorem ggX5_deaths_X5_isAlive : GoodIn wsX5_deaths wsX5_isAlive := goodIn_r _ [8, 3, 1, 28, 29, 30, 31, 32, 33, 34, 35, 36, 37, 38, 39, 40, 41, 42, 43, 44, 45, 46, 47, 48, 49, 50, 51] (by decide +kernel) (by decide +kernel)
set_option maxRecDepth 20000 in
theorem gX5_deaths_X5_isAlive : GoodIn wsX5_deaths (wsV RX5 104 RX5 yX5_isAlive wsX5_isAlive) := goodIn_app (goodIn_of _ (by decide +kernel)) ggX5_deaths_X5_isAlive
set_option maxRecDepth 20000 in
theorem ggX5_deaths_X5_isFloor : GoodIn wsX5_deaths wsX5_isFloor := goodIn_r _ [11] (by decide +kernel) (by decide +kernel)
set_option maxRecDepth 20000 in
theorem gX5_deaths_X5_isFloor : GoodIn wsX5_deaths (va_wsS RX5 168 yX5_isFloor wsX5_isFloor) := goodIn_app (goodIn_of _ (by decide +kernel)) ggX5_deaths_X5_isFloor
set_option maxRecDepth 20000 in
theorem ggX5_deaths_X5_no : GoodIn wsX5_deaths wsX5_no := goodIn_r _ [15, 16, 28, 29, 30, 31, 32, 33, 34, 35, 36, 37, 38, 39, 40, 41, 42, 43, 44, 45, 46, 47, 48, 49, 50, 51] (by decide +kernel) (by decide +kernel)
set_option maxRecDepth 20000 in
theorem gX5_deaths_X5_no : GoodIn wsX5_deaths (wsV RX5 68 RX5 yX5_no wsX5_no) := goodIn_app (goodIn_of _ (by decide +kernel)) ggX5_deaths_X5_no
set_option maxRecDepth 20000 in
theorem ggX5_deaths_X5_isIn : GoodIn wsX5_deaths wsX5_isIn := goodIn_r _ [19] (by decide +kernel) (by decide +kernel)
set_option maxRecDepth 20000 in
theorem gX5_deaths_X5_isIn : GoodIn wsX5_deaths (va_wsS RX5 79 yX5_isIn wsX5_isIn) := goodIn_app (goodIn_of _ (by decide +kernel)) ggX5_deaths_X5_isIn
set_option maxRecDepth 20000 in
theorem ggX5_deaths_X5_chanceOf : GoodIn wsX5_deaths wsX5_chanceOf := goodIn_r _ [23, 24, 2, 25, 26, 7, 27, 28, 29, 30, 31, 32, 33, 34, 35, 36, 37, 38, 39, 40, 41, 42, 43, 44, 45, 46, 47, 48, 49, 50, 51] (by decide +kernel) (by decide +kernel)
set_option maxRecDepth 20000 in
theorem gX5_deaths_X5_chanceOf : GoodIn wsX5_deaths (wsV RX5 162 RX5 yX5_chanceOf wsX5_chanceOf) := goodIn_app (goodIn_of _ (by decide +kernel)) ggX5_deaths_X5_chanceOf
theorem dX5_deaths_0 : decode cX5_deaths 0 = .ok (.aload_n 0, 1) := by decide +kernel
theorem dX5_deaths_1 : decode cX5_deaths 1 = .ok (.iload_n 1, 1) := by decide +kernel
theorem dX5_deaths_2 : decode cX5_deaths 2 = .ok (.invokevirtual 104, 3) := by decide +kernel
theorem dX5_deaths_5 : decode cX5_deaths 5 = .ok (.ifCond .eq 10, 3) := by decide +kernel
theorem dX5_deaths_8 : decode cX5_deaths 8 = .ok (.iload_n 2, 1) := by decide +kernel
theorem dX5_deaths_9 : decode cX5_deaths 9 = .ok (.invokestatic 168, 3) := by decide +kernel
theorem dX5_deaths_12 : decode cX5_deaths 12 = .ok (.ifCond .ne 9, 3) := by decide +kernel
theorem dX5_deaths_15 : decode cX5_deaths 15 = .ok (.aload_n 0, 1) := by decide +kernel
theorem dX5_deaths_16 : decode cX5_deaths 16 = .ok (.iconst (-1), 1) := by decide +kernel
theorem dX5_deaths_17 : decode cX5_deaths 17 = .ok (.invokevirtual 68, 3) := by decide +kernel
theorem dX5_deaths_20 : decode cX5_deaths 20 = .ok (.ireturn, 1) := by decide +kernel
theorem dX5_deaths_21 : decode cX5_deaths 21 = .ok (.iload_n 3, 1) := by decide +kernel
theorem dX5_deaths_22 : decode cX5_deaths 22 = .ok (.iconst 0, 1) := by decide +kernel
theorem dX5_deaths_23 : decode cX5_deaths 23 = .ok (.iconst 1, 1) := by decide +kernel
theorem dX5_deaths_24 : decode cX5_deaths 24 = .ok (.invokestatic 79, 3) := by decide +kernel
theorem dX5_deaths_27 : decode cX5_deaths 27 = .ok (.ifCond .ne 10, 3) := by decide +kernel
theorem dX5_deaths_30 : decode cX5_deaths 30 = .ok (.aload_n 0, 1) := by decide +kernel
theorem dX5_deaths_31 : decode cX5_deaths 31 = .ok (.bipush (-2), 2) := by decide +kernel
theorem dX5_deaths_33 : decode cX5_deaths 33 = .ok (.invokevirtual 68, 3) := by decide +kernel
theorem dX5_deaths_36 : decode cX5_deaths 36 = .ok (.ireturn, 1) := by decide +kernel
theorem dX5_deaths_37 : decode cX5_deaths 37 = .ok (.iload_n 2, 1) := by decide +kernel
theorem dX5_deaths_38 : decode cX5_deaths 38 = .ok (.aload_n 0, 1) := by decide +kernel
theorem dX5_deaths_39 : decode cX5_deaths 39 = .ok (.getfield 19, 3) := by decide +kernel
theorem dX5_deaths_42 : decode cX5_deaths 42 = .ok (.iload_n 1, 1) := by decide +kernel
theorem dX5_deaths_43 : decode cX5_deaths 43 = .ok (.iaload, 1) := by decide +kernel
theorem dX5_deaths_44 : decode cX5_deaths 44 = .ok (.isub, 1) := by decide +kernel
theorem dX5_deaths_45 : decode cX5_deaths 45 = .ok (.istore 4, 2) := by decide +kernel
theorem dX5_deaths_47 : decode cX5_deaths 47 = .ok (.iload 4, 2) := by decide +kernel
theorem dX5_deaths_49 : decode cX5_deaths 49 = .ok (.iconst 1, 1) := by decide +kernel
theorem dX5_deaths_50 : decode cX5_deaths 50 = .ok (.if_icmp .lt 22, 3) := by decide +kernel
theorem dX5_deaths_53 : decode cX5_deaths 53 = .ok (.aload_n 0, 1) := by decide +kernel
theorem dX5_deaths_54 : decode cX5_deaths 54 = .ok (.getfield 13, 3) := by decide +kernel
theorem dX5_deaths_57 : decode cX5_deaths 57 = .ok (.iload_n 1, 1) := by decide +kernel
theorem dX5_deaths_58 : decode cX5_deaths 58 = .ok (.iaload, 1) := by decide +kernel
theorem dX5_deaths_59 : decode cX5_deaths 59 = .ok (.iconst 3, 1) := by decide +kernel
theorem dX5_deaths_60 : decode cX5_deaths 60 = .ok (.if_icmp .ne 15, 3) := by decide +kernel
theorem dX5_deaths_63 : decode cX5_deaths 63 = .ok (.aload_n 0, 1) := by decide +kernel
theorem dX5_deaths_64 : decode cX5_deaths 64 = .ok (.getfield 19, 3) := by decide +kernel
theorem dX5_deaths_67 : decode cX5_deaths 67 = .ok (.iload_n 1, 1) := by decide +kernel
theorem dX5_deaths_68 : decode cX5_deaths 68 = .ok (.iaload, 1) := by decide +kernel
theorem dX5_deaths_69 : decode cX5_deaths 69 = .ok (.ifCond .ne 6, 3) := by decide +kernel
theorem dX5_deaths_72 : decode cX5_deaths 72 = .ok (.bipush (-9), 2) := by decide +kernel
theorem dX5_deaths_74 : decode cX5_deaths 74 = .ok (.ireturn, 1) := by decide +kernel
theorem dX5_deaths_75 : decode cX5_deaths 75 = .ok (.iconst 0, 1) := by decide +kernel
theorem dX5_deaths_76 : decode cX5_deaths 76 = .ok (.istore 5, 2) := by decide +kernel
theorem dX5_deaths_78 : decode cX5_deaths 78 = .ok (.iconst 0, 1) := by decide +kernel
theorem dX5_deaths_79 : decode cX5_deaths 79 = .ok (.istore 6, 2) := by decide +kernel
theorem dX5_deaths_81 : decode cX5_deaths 81 = .ok (.iload 6, 2) := by decide +kernel
theorem dX5_deaths_83 : decode cX5_deaths 83 = .ok (.iload 4, 2) := by decide +kernel
theorem dX5_deaths_85 : decode cX5_deaths 85 = .ok (.if_icmp .ge 98, 3) := by decide +kernel
theorem dX5_deaths_88 : decode cX5_deaths 88 = .ok (.bipush (-9), 2) := by decide +kernel
theorem dX5_deaths_90 : decode cX5_deaths 90 = .ok (.istore 7, 2) := by decide +kernel
theorem dX5_deaths_92 : decode cX5_deaths 92 = .ok (.iconst 0, 1) := by decide +kernel
theorem dX5_deaths_93 : decode cX5_deaths 93 = .ok (.istore 8, 2) := by decide +kernel
theorem dX5_deaths_95 : decode cX5_deaths 95 = .ok (.iload 8, 2) := by decide +kernel
theorem dX5_deaths_97 : decode cX5_deaths 97 = .ok (.aload_n 0, 1) := by decide +kernel
theorem dX5_deaths_98 : decode cX5_deaths 98 = .ok (.getfield 57, 3) := by decide +kernel
theorem dX5_deaths_101 : decode cX5_deaths 101 = .ok (.if_icmp .ge 59, 3) := by decide +kernel
theorem dX5_deaths_104 : decode cX5_deaths 104 = .ok (.aload_n 0, 1) := by decide +kernel
theorem dX5_deaths_105 : decode cX5_deaths 105 = .ok (.getfield 19, 3) := by decide +kernel
theorem dX5_deaths_108 : decode cX5_deaths 108 = .ok (.iload 8, 2) := by decide +kernel
theorem dX5_deaths_110 : decode cX5_deaths 110 = .ok (.iaload, 1) := by decide +kernel
theorem dX5_deaths_111 : decode cX5_deaths 111 = .ok (.aload_n 0, 1) := by decide +kernel
theorem dX5_deaths_112 : decode cX5_deaths 112 = .ok (.getfield 19, 3) := by decide +kernel
theorem dX5_deaths_115 : decode cX5_deaths 115 = .ok (.iload_n 1, 1) := by decide +kernel
theorem dX5_deaths_116 : decode cX5_deaths 116 = .ok (.iaload, 1) := by decide +kernel
theorem dX5_deaths_117 : decode cX5_deaths 117 = .ok (.if_icmp .le 37, 3) := by decide +kernel
theorem dX5_deaths_120 : decode cX5_deaths 120 = .ok (.iload 5, 2) := by decide +kernel
theorem dX5_deaths_122 : decode cX5_deaths 122 = .ok (.iload 8, 2) := by decide +kernel
theorem dX5_deaths_124 : decode cX5_deaths 124 = .ok (.ishr, 1) := by decide +kernel
theorem dX5_deaths_125 : decode cX5_deaths 125 = .ok (.iconst 1, 1) := by decide +kernel
theorem dX5_deaths_126 : decode cX5_deaths 126 = .ok (.iand, 1) := by decide +kernel
theorem dX5_deaths_127 : decode cX5_deaths 127 = .ok (.ifCond .ne 27, 3) := by decide +kernel
theorem dX5_deaths_130 : decode cX5_deaths 130 = .ok (.iload 7, 2) := by decide +kernel
theorem dX5_deaths_132 : decode cX5_deaths 132 = .ok (.ifCond .lt 18, 3) := by decide +kernel
theorem dX5_deaths_135 : decode cX5_deaths 135 = .ok (.aload_n 0, 1) := by decide +kernel
theorem dX5_deaths_136 : decode cX5_deaths 136 = .ok (.iload 8, 2) := by decide +kernel
theorem dX5_deaths_138 : decode cX5_deaths 138 = .ok (.invokevirtual 162, 3) := by decide +kernel
theorem dX5_deaths_141 : decode cX5_deaths 141 = .ok (.aload_n 0, 1) := by decide +kernel
theorem dX5_deaths_142 : decode cX5_deaths 142 = .ok (.iload 7, 2) := by decide +kernel
theorem dX5_deaths_144 : decode cX5_deaths 144 = .ok (.invokevirtual 162, 3) := by decide +kernel
theorem dX5_deaths_147 : decode cX5_deaths 147 = .ok (.if_icmp .le 7, 3) := by decide +kernel
theorem dX5_deaths_150 : decode cX5_deaths 150 = .ok (.iload 8, 2) := by decide +kernel
theorem dX5_deaths_152 : decode cX5_deaths 152 = .ok (.istore 7, 2) := by decide +kernel
theorem dX5_deaths_154 : decode cX5_deaths 154 = .ok (.iinc 8 1, 3) := by decide +kernel
theorem dX5_deaths_157 : decode cX5_deaths 157 = .ok (.goto (-62), 3) := by decide +kernel
theorem dX5_deaths_160 : decode cX5_deaths 160 = .ok (.iload 7, 2) := by decide +kernel
theorem dX5_deaths_162 : decode cX5_deaths 162 = .ok (.ifCond .ge 6, 3) := by decide +kernel
theorem dX5_deaths_165 : decode cX5_deaths 165 = .ok (.bipush (-9), 2) := by decide +kernel
theorem dX5_deaths_167 : decode cX5_deaths 167 = .ok (.ireturn, 1) := by decide +kernel
theorem dX5_deaths_168 : decode cX5_deaths 168 = .ok (.iload 5, 2) := by decide +kernel
theorem dX5_deaths_170 : decode cX5_deaths 170 = .ok (.iconst 1, 1) := by decide +kernel
theorem dX5_deaths_171 : decode cX5_deaths 171 = .ok (.iload 7, 2) := by decide +kernel
theorem dX5_deaths_173 : decode cX5_deaths 173 = .ok (.ishl, 1) := by decide +kernel
theorem dX5_deaths_174 : decode cX5_deaths 174 = .ok (.ior, 1) := by decide +kernel
theorem dX5_deaths_175 : decode cX5_deaths 175 = .ok (.istore 5, 2) := by decide +kernel
theorem dX5_deaths_177 : decode cX5_deaths 177 = .ok (.iinc 6 1, 3) := by decide +kernel
theorem dX5_deaths_180 : decode cX5_deaths 180 = .ok (.goto (-99), 3) := by decide +kernel
theorem dX5_deaths_183 : decode cX5_deaths 183 = .ok (.iload_n 3, 1) := by decide +kernel
theorem dX5_deaths_184 : decode cX5_deaths 184 = .ok (.ifCond .ne 8, 3) := by decide +kernel
theorem dX5_deaths_187 : decode cX5_deaths 187 = .ok (.iload 4, 2) := by decide +kernel
theorem dX5_deaths_189 : decode cX5_deaths 189 = .ok (.goto 5, 3) := by decide +kernel
theorem dX5_deaths_192 : decode cX5_deaths 192 = .ok (.iload 5, 2) := by decide +kernel
theorem dX5_deaths_194 : decode cX5_deaths 194 = .ok (.ireturn, 1) := by decide +kernel
set_option maxRecDepth 20000 in
theorem ggX5_stuck_X5_climbs : GoodIn wsX5_stuck wsX5_climbs := goodIn_r _ [8, 9, 10, 7, 11] (by decide +kernel) (by decide +kernel)
set_option maxRecDepth 20000 in
theorem gX5_stuck_X5_climbs : GoodIn wsX5_stuck (va_wsS RX5 165 yX5_climbs wsX5_climbs) := goodIn_app (goodIn_of _ (by decide +kernel)) ggX5_stuck_X5_climbs
theorem dX5_stuck_0 : decode cX5_stuck 0 = .ok (.iconst 0, 1) := by decide +kernel
theorem dX5_stuck_1 : decode cX5_stuck 1 = .ok (.istore_n 1, 1) := by decide +kernel
theorem dX5_stuck_2 : decode cX5_stuck 2 = .ok (.iconst 0, 1) := by decide +kernel
theorem dX5_stuck_3 : decode cX5_stuck 3 = .ok (.istore_n 2, 1) := by decide +kernel
theorem dX5_stuck_4 : decode cX5_stuck 4 = .ok (.iload_n 2, 1) := by decide +kernel
theorem dX5_stuck_5 : decode cX5_stuck 5 = .ok (.aload_n 0, 1) := by decide +kernel
theorem dX5_stuck_6 : decode cX5_stuck 6 = .ok (.getfield 57, 3) := by decide +kernel
theorem dX5_stuck_9 : decode cX5_stuck 9 = .ok (.if_icmp .ge 43, 3) := by decide +kernel
theorem dX5_stuck_12 : decode cX5_stuck 12 = .ok (.iload_n 1, 1) := by decide +kernel
theorem dX5_stuck_13 : decode cX5_stuck 13 = .ok (.aload_n 0, 1) := by decide +kernel
theorem dX5_stuck_14 : decode cX5_stuck 14 = .ok (.getfield 19, 3) := by decide +kernel
theorem dX5_stuck_17 : decode cX5_stuck 17 = .ok (.iload_n 2, 1) := by decide +kernel
theorem dX5_stuck_18 : decode cX5_stuck 18 = .ok (.iaload, 1) := by decide +kernel
theorem dX5_stuck_19 : decode cX5_stuck 19 = .ok (.aload_n 0, 1) := by decide +kernel
theorem dX5_stuck_20 : decode cX5_stuck 20 = .ok (.getfield 13, 3) := by decide +kernel
theorem dX5_stuck_23 : decode cX5_stuck 23 = .ok (.iload_n 2, 1) := by decide +kernel
theorem dX5_stuck_24 : decode cX5_stuck 24 = .ok (.iaload, 1) := by decide +kernel
theorem dX5_stuck_25 : decode cX5_stuck 25 = .ok (.aload_n 0, 1) := by decide +kernel
theorem dX5_stuck_26 : decode cX5_stuck 26 = .ok (.getfield 16, 3) := by decide +kernel
theorem dX5_stuck_29 : decode cX5_stuck 29 = .ok (.iload_n 2, 1) := by decide +kernel
theorem dX5_stuck_30 : decode cX5_stuck 30 = .ok (.iaload, 1) := by decide +kernel
theorem dX5_stuck_31 : decode cX5_stuck 31 = .ok (.invokestatic 165, 3) := by decide +kernel
theorem dX5_stuck_34 : decode cX5_stuck 34 = .ok (.if_icmp .le 9, 3) := by decide +kernel
theorem dX5_stuck_37 : decode cX5_stuck 37 = .ok (.iconst 1, 1) := by decide +kernel
theorem dX5_stuck_38 : decode cX5_stuck 38 = .ok (.iload_n 2, 1) := by decide +kernel
theorem dX5_stuck_39 : decode cX5_stuck 39 = .ok (.ishl, 1) := by decide +kernel
theorem dX5_stuck_40 : decode cX5_stuck 40 = .ok (.goto 4, 3) := by decide +kernel
theorem dX5_stuck_43 : decode cX5_stuck 43 = .ok (.iconst 0, 1) := by decide +kernel
theorem dX5_stuck_44 : decode cX5_stuck 44 = .ok (.ior, 1) := by decide +kernel
theorem dX5_stuck_45 : decode cX5_stuck 45 = .ok (.istore_n 1, 1) := by decide +kernel
theorem dX5_stuck_46 : decode cX5_stuck 46 = .ok (.iinc 2 1, 3) := by decide +kernel
theorem dX5_stuck_49 : decode cX5_stuck 49 = .ok (.goto (-45), 3) := by decide +kernel
theorem dX5_stuck_52 : decode cX5_stuck 52 = .ok (.iload_n 1, 1) := by decide +kernel
theorem dX5_stuck_53 : decode cX5_stuck 53 = .ok (.ireturn, 1) := by decide +kernel
set_option maxRecDepth 20000 in
theorem ggX5_safe_X5_isAlive : GoodIn wsX5_safe wsX5_isAlive := goodIn_r _ [8, 9, 3, 21, 22, 23, 24, 25, 26, 27, 28, 29, 30, 31, 32, 33, 34, 35, 36, 37, 38, 39, 40, 41, 42, 43, 44] (by decide +kernel) (by decide +kernel)
set_option maxRecDepth 20000 in
theorem gX5_safe_X5_isAlive : GoodIn wsX5_safe (wsV RX5 104 RX5 yX5_isAlive wsX5_isAlive) := goodIn_app (goodIn_of _ (by decide +kernel)) ggX5_safe_X5_isAlive
set_option maxRecDepth 20000 in
theorem ggX5_safe_X5_no : GoodIn wsX5_safe wsX5_no := goodIn_r _ [13, 14, 21, 22, 23, 24, 25, 26, 27, 28, 29, 30, 31, 32, 33, 34, 35, 36, 37, 38, 39, 40, 41, 42, 43, 44] (by decide +kernel) (by decide +kernel)
set_option maxRecDepth 20000 in
theorem gX5_safe_X5_no : GoodIn wsX5_safe (wsV RX5 68 RX5 yX5_no wsX5_no) := goodIn_app (goodIn_of _ (by decide +kernel)) ggX5_safe_X5_no
set_option maxRecDepth 20000 in
theorem ggX5_safe_X5_least : GoodIn wsX5_safe wsX5_least := goodIn_r _ [17] (by decide +kernel) (by decide +kernel)
set_option maxRecDepth 20000 in
theorem gX5_safe_X5_least : GoodIn wsX5_safe (va_wsS RX5 153 yX5_least wsX5_least) := goodIn_app (goodIn_of _ (by decide +kernel)) ggX5_safe_X5_least
set_option maxRecDepth 20000 in
theorem ggX5_safe_X5_climbs : GoodIn wsX5_safe wsX5_climbs := goodIn_r _ [20, 15, 16, 7, 17] (by decide +kernel) (by decide +kernel)
set_option maxRecDepth 20000 in
theorem gX5_safe_X5_climbs : GoodIn wsX5_safe (va_wsS RX5 165 yX5_climbs wsX5_climbs) := goodIn_app (goodIn_of _ (by decide +kernel)) ggX5_safe_X5_climbs
theorem dX5_safe_0 : decode cX5_safe 0 = .ok (.aload_n 0, 1) := by decide +kernel
theorem dX5_safe_1 : decode cX5_safe 1 = .ok (.iload_n 1, 1) := by decide +kernel
theorem dX5_safe_2 : decode cX5_safe 2 = .ok (.invokevirtual 104, 3) := by decide +kernel
theorem dX5_safe_5 : decode cX5_safe 5 = .ok (.ifCond .ne 9, 3) := by decide +kernel
theorem dX5_safe_8 : decode cX5_safe 8 = .ok (.aload_n 0, 1) := by decide +kernel
theorem dX5_safe_9 : decode cX5_safe 9 = .ok (.iconst (-1), 1) := by decide +kernel
theorem dX5_safe_10 : decode cX5_safe 10 = .ok (.invokevirtual 68, 3) := by decide +kernel
theorem dX5_safe_13 : decode cX5_safe 13 = .ok (.ireturn, 1) := by decide +kernel
theorem dX5_safe_14 : decode cX5_safe 14 = .ok (.bipush (-9), 2) := by decide +kernel
theorem dX5_safe_16 : decode cX5_safe 16 = .ok (.istore_n 2, 1) := by decide +kernel
theorem dX5_safe_17 : decode cX5_safe 17 = .ok (.iconst 0, 1) := by decide +kernel
theorem dX5_safe_18 : decode cX5_safe 18 = .ok (.istore_n 3, 1) := by decide +kernel
theorem dX5_safe_19 : decode cX5_safe 19 = .ok (.iload_n 3, 1) := by decide +kernel
theorem dX5_safe_20 : decode cX5_safe 20 = .ok (.bipush 99, 2) := by decide +kernel
theorem dX5_safe_22 : decode cX5_safe 22 = .ok (.if_icmp .gt 42, 3) := by decide +kernel
theorem dX5_safe_25 : decode cX5_safe 25 = .ok (.aload_n 0, 1) := by decide +kernel
theorem dX5_safe_26 : decode cX5_safe 26 = .ok (.getfield 13, 3) := by decide +kernel
theorem dX5_safe_29 : decode cX5_safe 29 = .ok (.iload_n 1, 1) := by decide +kernel
theorem dX5_safe_30 : decode cX5_safe 30 = .ok (.iaload, 1) := by decide +kernel
theorem dX5_safe_31 : decode cX5_safe 31 = .ok (.bipush 99, 2) := by decide +kernel
theorem dX5_safe_33 : decode cX5_safe 33 = .ok (.aload_n 0, 1) := by decide +kernel
theorem dX5_safe_34 : decode cX5_safe 34 = .ok (.getfield 16, 3) := by decide +kernel
theorem dX5_safe_37 : decode cX5_safe 37 = .ok (.iload_n 1, 1) := by decide +kernel
theorem dX5_safe_38 : decode cX5_safe 38 = .ok (.iaload, 1) := by decide +kernel
theorem dX5_safe_39 : decode cX5_safe 39 = .ok (.iload_n 3, 1) := by decide +kernel
theorem dX5_safe_40 : decode cX5_safe 40 = .ok (.iadd, 1) := by decide +kernel
theorem dX5_safe_41 : decode cX5_safe 41 = .ok (.invokestatic 153, 3) := by decide +kernel
theorem dX5_safe_44 : decode cX5_safe 44 = .ok (.invokestatic 165, 3) := by decide +kernel
theorem dX5_safe_47 : decode cX5_safe 47 = .ok (.aload_n 0, 1) := by decide +kernel
theorem dX5_safe_48 : decode cX5_safe 48 = .ok (.getfield 19, 3) := by decide +kernel
theorem dX5_safe_51 : decode cX5_safe 51 = .ok (.iload_n 1, 1) := by decide +kernel
theorem dX5_safe_52 : decode cX5_safe 52 = .ok (.iaload, 1) := by decide +kernel
theorem dX5_safe_53 : decode cX5_safe 53 = .ok (.if_icmp .lt 5, 3) := by decide +kernel
theorem dX5_safe_56 : decode cX5_safe 56 = .ok (.iload_n 3, 1) := by decide +kernel
theorem dX5_safe_57 : decode cX5_safe 57 = .ok (.istore_n 2, 1) := by decide +kernel
theorem dX5_safe_58 : decode cX5_safe 58 = .ok (.iinc 3 1, 3) := by decide +kernel
theorem dX5_safe_61 : decode cX5_safe 61 = .ok (.goto (-42), 3) := by decide +kernel
theorem dX5_safe_64 : decode cX5_safe 64 = .ok (.iload_n 2, 1) := by decide +kernel
theorem dX5_safe_65 : decode cX5_safe 65 = .ok (.ireturn, 1) := by decide +kernel
set_option maxRecDepth 20000 in
theorem ggX5_carriedBy_X5_movesOf : GoodIn wsX5_carriedBy wsX5_movesOf := goodIn_r _ [7, 8, 9, 1, 10, 11, 12, 13, 14, 15, 16, 17, 18, 19, 20, 21, 22, 23, 24, 25, 26, 27, 28, 29, 30, 31, 32, 33] (by decide +kernel) (by decide +kernel)
set_option maxRecDepth 20000 in
theorem gX5_carriedBy_X5_movesOf : GoodIn wsX5_carriedBy (wsV RX5 156 RX5 yX5_movesOf wsX5_movesOf) := goodIn_app (goodIn_of _ (by decide +kernel)) ggX5_carriedBy_X5_movesOf
theorem dX5_carriedBy_0 : decode cX5_carriedBy 0 = .ok (.iconst 0, 1) := by decide +kernel
theorem dX5_carriedBy_1 : decode cX5_carriedBy 1 = .ok (.istore_n 2, 1) := by decide +kernel
theorem dX5_carriedBy_2 : decode cX5_carriedBy 2 = .ok (.iconst 0, 1) := by decide +kernel
theorem dX5_carriedBy_3 : decode cX5_carriedBy 3 = .ok (.istore_n 3, 1) := by decide +kernel
theorem dX5_carriedBy_4 : decode cX5_carriedBy 4 = .ok (.iload_n 3, 1) := by decide +kernel
theorem dX5_carriedBy_5 : decode cX5_carriedBy 5 = .ok (.aload_n 0, 1) := by decide +kernel
theorem dX5_carriedBy_6 : decode cX5_carriedBy 6 = .ok (.getfield 57, 3) := by decide +kernel
theorem dX5_carriedBy_9 : decode cX5_carriedBy 9 = .ok (.if_icmp .ge 25, 3) := by decide +kernel
theorem dX5_carriedBy_12 : decode cX5_carriedBy 12 = .ok (.iload_n 2, 1) := by decide +kernel
theorem dX5_carriedBy_13 : decode cX5_carriedBy 13 = .ok (.aload_n 0, 1) := by decide +kernel
theorem dX5_carriedBy_14 : decode cX5_carriedBy 14 = .ok (.getfield 22, 3) := by decide +kernel
theorem dX5_carriedBy_17 : decode cX5_carriedBy 17 = .ok (.iload_n 3, 1) := by decide +kernel
theorem dX5_carriedBy_18 : decode cX5_carriedBy 18 = .ok (.iaload, 1) := by decide +kernel
theorem dX5_carriedBy_19 : decode cX5_carriedBy 19 = .ok (.aload_n 0, 1) := by decide +kernel
theorem dX5_carriedBy_20 : decode cX5_carriedBy 20 = .ok (.iload_n 3, 1) := by decide +kernel
theorem dX5_carriedBy_21 : decode cX5_carriedBy 21 = .ok (.iload_n 1, 1) := by decide +kernel
theorem dX5_carriedBy_22 : decode cX5_carriedBy 22 = .ok (.invokevirtual 156, 3) := by decide +kernel
theorem dX5_carriedBy_25 : decode cX5_carriedBy 25 = .ok (.imul, 1) := by decide +kernel
theorem dX5_carriedBy_26 : decode cX5_carriedBy 26 = .ok (.iadd, 1) := by decide +kernel
theorem dX5_carriedBy_27 : decode cX5_carriedBy 27 = .ok (.istore_n 2, 1) := by decide +kernel
theorem dX5_carriedBy_28 : decode cX5_carriedBy 28 = .ok (.iinc 3 1, 3) := by decide +kernel
theorem dX5_carriedBy_31 : decode cX5_carriedBy 31 = .ok (.goto (-27), 3) := by decide +kernel
theorem dX5_carriedBy_34 : decode cX5_carriedBy 34 = .ok (.iload_n 2, 1) := by decide +kernel
theorem dX5_carriedBy_35 : decode cX5_carriedBy 35 = .ok (.ireturn, 1) := by decide +kernel
set_option maxRecDepth 20000 in
theorem ggX5_carried_X5_areAlive : GoodIn wsX5_carried wsX5_areAlive := goodIn_r _ [5, 6, 7, 8, 4, 9, 10, 11, 27, 28, 29, 30, 31, 32, 33, 34, 35, 36, 37, 38, 39, 40, 41, 42, 43, 44, 45, 46, 47, 48, 49, 50] (by decide +kernel) (by decide +kernel)
set_option maxRecDepth 20000 in
theorem gX5_carried_X5_areAlive : GoodIn wsX5_carried (wsV RX5 171 RX5 yX5_areAlive wsX5_areAlive) := goodIn_app (goodIn_of _ (by decide +kernel)) ggX5_carried_X5_areAlive
set_option maxRecDepth 20000 in
theorem ggX5_carried_X5_carriedBy : GoodIn wsX5_carried wsX5_carriedBy := goodIn_r _ [15, 10, 16, 17, 18, 19, 4, 20, 11, 21, 27, 28, 29, 30, 31, 32, 33, 34, 35, 36, 37, 38, 39, 40, 41, 42, 43, 44, 45, 46, 47, 48, 49, 50] (by decide +kernel) (by decide +kernel)
set_option maxRecDepth 20000 in
theorem gX5_carried_X5_carriedBy : GoodIn wsX5_carried (wsV RX5 195 RX5 yX5_carriedBy wsX5_carriedBy) := goodIn_app (goodIn_of _ (by decide +kernel)) ggX5_carried_X5_carriedBy
set_option maxRecDepth 20000 in
theorem ggX5_carried_X5_no : GoodIn wsX5_carried wsX5_no := goodIn_r _ [25, 26, 27, 28, 29, 30, 31, 32, 33, 34, 35, 36, 37, 38, 39, 40, 41, 42, 43, 44, 45, 46, 47, 48, 49, 50] (by decide +kernel) (by decide +kernel)
set_option maxRecDepth 20000 in
theorem gX5_carried_X5_no : GoodIn wsX5_carried (wsV RX5 68 RX5 yX5_no wsX5_no) := goodIn_app (goodIn_of _ (by decide +kernel)) ggX5_carried_X5_no
theorem dX5_carried_0 : decode cX5_carried 0 = .ok (.aload_n 0, 1) := by decide +kernel
theorem dX5_carried_1 : decode cX5_carried 1 = .ok (.iload_n 1, 1) := by decide +kernel
theorem dX5_carried_2 : decode cX5_carried 2 = .ok (.invokevirtual 171, 3) := by decide +kernel
theorem dX5_carried_5 : decode cX5_carried 5 = .ok (.ifCond .eq 11, 3) := by decide +kernel
theorem dX5_carried_8 : decode cX5_carried 8 = .ok (.aload_n 0, 1) := by decide +kernel
theorem dX5_carried_9 : decode cX5_carried 9 = .ok (.iload_n 1, 1) := by decide +kernel
theorem dX5_carried_10 : decode cX5_carried 10 = .ok (.invokevirtual 195, 3) := by decide +kernel
theorem dX5_carried_13 : decode cX5_carried 13 = .ok (.goto 8, 3) := by decide +kernel
theorem dX5_carried_16 : decode cX5_carried 16 = .ok (.aload_n 0, 1) := by decide +kernel
theorem dX5_carried_17 : decode cX5_carried 17 = .ok (.iconst (-1), 1) := by decide +kernel
theorem dX5_carried_18 : decode cX5_carried 18 = .ok (.invokevirtual 68, 3) := by decide +kernel
theorem dX5_carried_21 : decode cX5_carried 21 = .ok (.ireturn, 1) := by decide +kernel
set_option maxRecDepth 20000 in
theorem ggX5_leastCarried_X5_carriedBy : GoodIn wsX5_leastCarried wsX5_carriedBy := goodIn_r _ [7, 1, 8, 9, 10, 11, 6, 12, 2, 13, 14, 15, 16, 17, 18, 19, 20, 21, 22, 23, 24, 25, 26, 27, 28, 29, 30, 31, 32, 33, 34, 35, 36, 37] (by decide +kernel) (by decide +kernel)
set_option maxRecDepth 20000 in
theorem gX5_leastCarried_X5_carriedBy : GoodIn wsX5_leastCarried (wsV RX5 195 RX5 yX5_carriedBy wsX5_carriedBy) := goodIn_app (goodIn_of _ (by decide +kernel)) ggX5_leastCarried_X5_carriedBy
theorem dX5_leastCarried_0 : decode cX5_leastCarried 0 = .ok (.bipush (-9), 2) := by decide +kernel
theorem dX5_leastCarried_2 : decode cX5_leastCarried 2 = .ok (.istore_n 1, 1) := by decide +kernel
theorem dX5_leastCarried_3 : decode cX5_leastCarried 3 = .ok (.iconst 0, 1) := by decide +kernel
theorem dX5_leastCarried_4 : decode cX5_leastCarried 4 = .ok (.istore_n 2, 1) := by decide +kernel
theorem dX5_leastCarried_5 : decode cX5_leastCarried 5 = .ok (.iload_n 2, 1) := by decide +kernel
theorem dX5_leastCarried_6 : decode cX5_leastCarried 6 = .ok (.aload_n 0, 1) := by decide +kernel
theorem dX5_leastCarried_7 : decode cX5_leastCarried 7 = .ok (.getfield 57, 3) := by decide +kernel
theorem dX5_leastCarried_10 : decode cX5_leastCarried 10 = .ok (.if_icmp .ge 41, 3) := by decide +kernel
theorem dX5_leastCarried_13 : decode cX5_leastCarried 13 = .ok (.aload_n 0, 1) := by decide +kernel
theorem dX5_leastCarried_14 : decode cX5_leastCarried 14 = .ok (.getfield 19, 3) := by decide +kernel
theorem dX5_leastCarried_17 : decode cX5_leastCarried 17 = .ok (.iload_n 2, 1) := by decide +kernel
theorem dX5_leastCarried_18 : decode cX5_leastCarried 18 = .ok (.iaload, 1) := by decide +kernel
theorem dX5_leastCarried_19 : decode cX5_leastCarried 19 = .ok (.ifCond .lt 26, 3) := by decide +kernel
theorem dX5_leastCarried_22 : decode cX5_leastCarried 22 = .ok (.iload_n 1, 1) := by decide +kernel
theorem dX5_leastCarried_23 : decode cX5_leastCarried 23 = .ok (.ifCond .lt 20, 3) := by decide +kernel
theorem dX5_leastCarried_26 : decode cX5_leastCarried 26 = .ok (.aload_n 0, 1) := by decide +kernel
theorem dX5_leastCarried_27 : decode cX5_leastCarried 27 = .ok (.iconst 1, 1) := by decide +kernel
theorem dX5_leastCarried_28 : decode cX5_leastCarried 28 = .ok (.iload_n 2, 1) := by decide +kernel
theorem dX5_leastCarried_29 : decode cX5_leastCarried 29 = .ok (.ishl, 1) := by decide +kernel
theorem dX5_leastCarried_30 : decode cX5_leastCarried 30 = .ok (.invokevirtual 195, 3) := by decide +kernel
theorem dX5_leastCarried_33 : decode cX5_leastCarried 33 = .ok (.aload_n 0, 1) := by decide +kernel
theorem dX5_leastCarried_34 : decode cX5_leastCarried 34 = .ok (.iconst 1, 1) := by decide +kernel
theorem dX5_leastCarried_35 : decode cX5_leastCarried 35 = .ok (.iload_n 1, 1) := by decide +kernel
theorem dX5_leastCarried_36 : decode cX5_leastCarried 36 = .ok (.ishl, 1) := by decide +kernel
theorem dX5_leastCarried_37 : decode cX5_leastCarried 37 = .ok (.invokevirtual 195, 3) := by decide +kernel
theorem dX5_leastCarried_40 : decode cX5_leastCarried 40 = .ok (.if_icmp .ge 5, 3) := by decide +kernel
theorem dX5_leastCarried_43 : decode cX5_leastCarried 43 = .ok (.iload_n 2, 1) := by decide +kernel
theorem dX5_leastCarried_44 : decode cX5_leastCarried 44 = .ok (.istore_n 1, 1) := by decide +kernel
theorem dX5_leastCarried_45 : decode cX5_leastCarried 45 = .ok (.iinc 2 1, 3) := by decide +kernel
theorem dX5_leastCarried_48 : decode cX5_leastCarried 48 = .ok (.goto (-43), 3) := by decide +kernel
theorem dX5_leastCarried_51 : decode cX5_leastCarried 51 = .ok (.iload_n 1, 1) := by decide +kernel
theorem dX5_leastCarried_52 : decode cX5_leastCarried 52 = .ok (.ireturn, 1) := by decide +kernel
set_option maxRecDepth 20000 in
theorem ggX5_ringBits_X5_whoOn : GoodIn wsX5_ringBits wsX5_whoOn := goodIn_r _ [8, 1, 2, 9, 10, 11, 12, 13, 14, 15, 16, 17, 18, 19, 20, 21, 22, 23, 24, 25, 26, 27, 28, 29, 30, 31, 32] (by decide +kernel) (by decide +kernel)
set_option maxRecDepth 20000 in
theorem gX5_ringBits_X5_whoOn : GoodIn wsX5_ringBits (wsV RX5 117 RX5 yX5_whoOn wsX5_whoOn) := goodIn_app (goodIn_of _ (by decide +kernel)) ggX5_ringBits_X5_whoOn
end
section
theorem dX5_ringBits_0 : decode cX5_ringBits 0 = .ok (.iconst 0, 1) := by decide +kernel
theorem dX5_ringBits_1 : decode cX5_ringBits 1 = .ok (.istore_n 1, 1) := by decide +kernel
theorem dX5_ringBits_2 : decode cX5_ringBits 2 = .ok (.iconst 0, 1) := by decide +kernel
theorem dX5_ringBits_3 : decode cX5_ringBits 3 = .ok (.istore_n 2, 1) := by decide +kernel
theorem dX5_ringBits_4 : decode cX5_ringBits 4 = .ok (.iload_n 2, 1) := by decide +kernel
theorem dX5_ringBits_5 : decode cX5_ringBits 5 = .ok (.aload_n 0, 1) := by decide +kernel
theorem dX5_ringBits_6 : decode cX5_ringBits 6 = .ok (.getfield 57, 3) := by decide +kernel
theorem dX5_ringBits_9 : decode cX5_ringBits 9 = .ok (.if_icmp .ge 76, 3) := by decide +kernel
theorem dX5_ringBits_12 : decode cX5_ringBits 12 = .ok (.iload_n 2, 1) := by decide +kernel
theorem dX5_ringBits_13 : decode cX5_ringBits 13 = .ok (.istore_n 3, 1) := by decide +kernel
theorem dX5_ringBits_14 : decode cX5_ringBits 14 = .ok (.iconst 0, 1) := by decide +kernel
theorem dX5_ringBits_15 : decode cX5_ringBits 15 = .ok (.istore 4, 2) := by decide +kernel
theorem dX5_ringBits_17 : decode cX5_ringBits 17 = .ok (.iload 4, 2) := by decide +kernel
theorem dX5_ringBits_19 : decode cX5_ringBits 19 = .ok (.bipush 8, 2) := by decide +kernel
theorem dX5_ringBits_21 : decode cX5_ringBits 21 = .ok (.if_icmp .ge 58, 3) := by decide +kernel
theorem dX5_ringBits_24 : decode cX5_ringBits 24 = .ok (.iload_n 3, 1) := by decide +kernel
theorem dX5_ringBits_25 : decode cX5_ringBits 25 = .ok (.ifCond .lt 54, 3) := by decide +kernel
theorem dX5_ringBits_28 : decode cX5_ringBits 28 = .ok (.aload_n 0, 1) := by decide +kernel
theorem dX5_ringBits_29 : decode cX5_ringBits 29 = .ok (.getfield 19, 3) := by decide +kernel
theorem dX5_ringBits_32 : decode cX5_ringBits 32 = .ok (.iload_n 3, 1) := by decide +kernel
theorem dX5_ringBits_33 : decode cX5_ringBits 33 = .ok (.iaload, 1) := by decide +kernel
theorem dX5_ringBits_34 : decode cX5_ringBits 34 = .ok (.ifCond .lt 12, 3) := by decide +kernel
theorem dX5_ringBits_37 : decode cX5_ringBits 37 = .ok (.aload_n 0, 1) := by decide +kernel
theorem dX5_ringBits_38 : decode cX5_ringBits 38 = .ok (.getfield 25, 3) := by decide +kernel
theorem dX5_ringBits_41 : decode cX5_ringBits 41 = .ok (.iload_n 3, 1) := by decide +kernel
theorem dX5_ringBits_42 : decode cX5_ringBits 42 = .ok (.iaload, 1) := by decide +kernel
theorem dX5_ringBits_43 : decode cX5_ringBits 43 = .ok (.ifCond .ge 8, 3) := by decide +kernel
theorem dX5_ringBits_46 : decode cX5_ringBits 46 = .ok (.bipush (-9), 2) := by decide +kernel
theorem dX5_ringBits_48 : decode cX5_ringBits 48 = .ok (.goto 13, 3) := by decide +kernel
theorem dX5_ringBits_51 : decode cX5_ringBits 51 = .ok (.aload_n 0, 1) := by decide +kernel
theorem dX5_ringBits_52 : decode cX5_ringBits 52 = .ok (.aload_n 0, 1) := by decide +kernel
theorem dX5_ringBits_53 : decode cX5_ringBits 53 = .ok (.getfield 25, 3) := by decide +kernel
theorem dX5_ringBits_56 : decode cX5_ringBits 56 = .ok (.iload_n 3, 1) := by decide +kernel
theorem dX5_ringBits_57 : decode cX5_ringBits 57 = .ok (.iaload, 1) := by decide +kernel
theorem dX5_ringBits_58 : decode cX5_ringBits 58 = .ok (.invokevirtual 117, 3) := by decide +kernel
theorem dX5_ringBits_61 : decode cX5_ringBits 61 = .ok (.istore_n 3, 1) := by decide +kernel
theorem dX5_ringBits_62 : decode cX5_ringBits 62 = .ok (.iload_n 3, 1) := by decide +kernel
theorem dX5_ringBits_63 : decode cX5_ringBits 63 = .ok (.iload_n 2, 1) := by decide +kernel
theorem dX5_ringBits_64 : decode cX5_ringBits 64 = .ok (.if_icmp .ne 9, 3) := by decide +kernel
theorem dX5_ringBits_67 : decode cX5_ringBits 67 = .ok (.iload_n 1, 1) := by decide +kernel
theorem dX5_ringBits_68 : decode cX5_ringBits 68 = .ok (.iconst 1, 1) := by decide +kernel
theorem dX5_ringBits_69 : decode cX5_ringBits 69 = .ok (.iload_n 2, 1) := by decide +kernel
theorem dX5_ringBits_70 : decode cX5_ringBits 70 = .ok (.ishl, 1) := by decide +kernel
theorem dX5_ringBits_71 : decode cX5_ringBits 71 = .ok (.ior, 1) := by decide +kernel
theorem dX5_ringBits_72 : decode cX5_ringBits 72 = .ok (.istore_n 1, 1) := by decide +kernel
theorem dX5_ringBits_73 : decode cX5_ringBits 73 = .ok (.iinc 4 1, 3) := by decide +kernel
theorem dX5_ringBits_76 : decode cX5_ringBits 76 = .ok (.goto (-59), 3) := by decide +kernel
theorem dX5_ringBits_79 : decode cX5_ringBits 79 = .ok (.iinc 2 1, 3) := by decide +kernel
theorem dX5_ringBits_82 : decode cX5_ringBits 82 = .ok (.goto (-78), 3) := by decide +kernel
theorem dX5_ringBits_85 : decode cX5_ringBits 85 = .ok (.iload_n 1, 1) := by decide +kernel
theorem dX5_ringBits_86 : decode cX5_ringBits 86 = .ok (.ireturn, 1) := by decide +kernel
set_option maxRecDepth 20000 in
theorem ggX5_rings_X5_ringBits : GoodIn wsX5_rings wsX5_ringBits := goodIn_r _ [5, 6, 7, 8, 9, 10, 11, 4, 12, 13, 14, 15, 16, 17, 18, 19, 20, 21, 22, 23, 24, 25, 26, 27, 28, 29, 30, 31, 32, 33, 34, 35, 36] (by decide +kernel) (by decide +kernel)
set_option maxRecDepth 20000 in
theorem gX5_rings_X5_ringBits : GoodIn wsX5_rings (wsV RX5 198 RX5 yX5_ringBits wsX5_ringBits) := goodIn_app (goodIn_of _ (by decide +kernel)) ggX5_rings_X5_ringBits
theorem dX5_rings_0 : decode cX5_rings 0 = .ok (.aload_n 0, 1) := by decide +kernel
theorem dX5_rings_1 : decode cX5_rings 1 = .ok (.invokevirtual 198, 3) := by decide +kernel
theorem dX5_rings_4 : decode cX5_rings 4 = .ok (.ireturn, 1) := by decide +kernel
set_option maxRecDepth 20000 in
theorem ggX5_changing_X5_ringBits : GoodIn wsX5_changing wsX5_ringBits := goodIn_r _ [8, 1, 2, 3, 9, 10, 11, 7, 12, 13, 14, 15, 16, 17, 18, 19, 20, 21, 22, 23, 24, 25, 26, 27, 28, 29, 30, 31, 32, 33, 34, 35, 36] (by decide +kernel) (by decide +kernel)
set_option maxRecDepth 20000 in
theorem gX5_changing_X5_ringBits : GoodIn wsX5_changing (wsV RX5 198 RX5 yX5_ringBits wsX5_ringBits) := goodIn_app (goodIn_of _ (by decide +kernel)) ggX5_changing_X5_ringBits
theorem dX5_changing_0 : decode cX5_changing 0 = .ok (.aload_n 0, 1) := by decide +kernel
theorem dX5_changing_1 : decode cX5_changing 1 = .ok (.invokevirtual 198, 3) := by decide +kernel
theorem dX5_changing_4 : decode cX5_changing 4 = .ok (.istore_n 1, 1) := by decide +kernel
theorem dX5_changing_5 : decode cX5_changing 5 = .ok (.iconst 0, 1) := by decide +kernel
theorem dX5_changing_6 : decode cX5_changing 6 = .ok (.istore_n 2, 1) := by decide +kernel
theorem dX5_changing_7 : decode cX5_changing 7 = .ok (.iconst 0, 1) := by decide +kernel
theorem dX5_changing_8 : decode cX5_changing 8 = .ok (.istore_n 3, 1) := by decide +kernel
theorem dX5_changing_9 : decode cX5_changing 9 = .ok (.iload_n 3, 1) := by decide +kernel
theorem dX5_changing_10 : decode cX5_changing 10 = .ok (.aload_n 0, 1) := by decide +kernel
theorem dX5_changing_11 : decode cX5_changing 11 = .ok (.getfield 57, 3) := by decide +kernel
theorem dX5_changing_14 : decode cX5_changing 14 = .ok (.if_icmp .ge 63, 3) := by decide +kernel
theorem dX5_changing_17 : decode cX5_changing 17 = .ok (.iload_n 1, 1) := by decide +kernel
theorem dX5_changing_18 : decode cX5_changing 18 = .ok (.iload_n 3, 1) := by decide +kernel
theorem dX5_changing_19 : decode cX5_changing 19 = .ok (.ishr, 1) := by decide +kernel
theorem dX5_changing_20 : decode cX5_changing 20 = .ok (.iconst 1, 1) := by decide +kernel
theorem dX5_changing_21 : decode cX5_changing 21 = .ok (.iand, 1) := by decide +kernel
theorem dX5_changing_22 : decode cX5_changing 22 = .ok (.ifCond .ne 6, 3) := by decide +kernel
theorem dX5_changing_25 : decode cX5_changing 25 = .ok (.goto 46, 3) := by decide +kernel
theorem dX5_changing_28 : decode cX5_changing 28 = .ok (.iload_n 2, 1) := by decide +kernel
theorem dX5_changing_29 : decode cX5_changing 29 = .ok (.aload_n 0, 1) := by decide +kernel
theorem dX5_changing_30 : decode cX5_changing 30 = .ok (.getfield 19, 3) := by decide +kernel
theorem dX5_changing_33 : decode cX5_changing 33 = .ok (.iload_n 3, 1) := by decide +kernel
theorem dX5_changing_34 : decode cX5_changing 34 = .ok (.iaload, 1) := by decide +kernel
theorem dX5_changing_35 : decode cX5_changing 35 = .ok (.aload_n 0, 1) := by decide +kernel
theorem dX5_changing_36 : decode cX5_changing 36 = .ok (.getfield 25, 3) := by decide +kernel
theorem dX5_changing_39 : decode cX5_changing 39 = .ok (.iload_n 3, 1) := by decide +kernel
theorem dX5_changing_40 : decode cX5_changing 40 = .ok (.iaload, 1) := by decide +kernel
theorem dX5_changing_41 : decode cX5_changing 41 = .ok (.if_icmp .ne 7, 3) := by decide +kernel
theorem dX5_changing_44 : decode cX5_changing 44 = .ok (.iconst 0, 1) := by decide +kernel
theorem dX5_changing_45 : decode cX5_changing 45 = .ok (.goto 4, 3) := by decide +kernel
theorem dX5_changing_48 : decode cX5_changing 48 = .ok (.iconst 1, 1) := by decide +kernel
theorem dX5_changing_49 : decode cX5_changing 49 = .ok (.iadd, 1) := by decide +kernel
theorem dX5_changing_50 : decode cX5_changing 50 = .ok (.istore_n 2, 1) := by decide +kernel
theorem dX5_changing_51 : decode cX5_changing 51 = .ok (.aload_n 0, 1) := by decide +kernel
theorem dX5_changing_52 : decode cX5_changing 52 = .ok (.getfield 19, 3) := by decide +kernel
theorem dX5_changing_55 : decode cX5_changing 55 = .ok (.iload_n 3, 1) := by decide +kernel
theorem dX5_changing_56 : decode cX5_changing 56 = .ok (.aload_n 0, 1) := by decide +kernel
theorem dX5_changing_57 : decode cX5_changing 57 = .ok (.getfield 25, 3) := by decide +kernel
theorem dX5_changing_60 : decode cX5_changing 60 = .ok (.iload_n 3, 1) := by decide +kernel
theorem dX5_changing_61 : decode cX5_changing 61 = .ok (.iaload, 1) := by decide +kernel
theorem dX5_changing_62 : decode cX5_changing 62 = .ok (.iastore, 1) := by decide +kernel
theorem dX5_changing_63 : decode cX5_changing 63 = .ok (.aload_n 0, 1) := by decide +kernel
theorem dX5_changing_64 : decode cX5_changing 64 = .ok (.getfield 25, 3) := by decide +kernel
theorem dX5_changing_67 : decode cX5_changing 67 = .ok (.iload_n 3, 1) := by decide +kernel
theorem dX5_changing_68 : decode cX5_changing 68 = .ok (.bipush (-9), 2) := by decide +kernel
theorem dX5_changing_70 : decode cX5_changing 70 = .ok (.iastore, 1) := by decide +kernel
theorem dX5_changing_71 : decode cX5_changing 71 = .ok (.iinc 3 1, 3) := by decide +kernel
theorem dX5_changing_74 : decode cX5_changing 74 = .ok (.goto (-65), 3) := by decide +kernel
theorem dX5_changing_77 : decode cX5_changing 77 = .ok (.iload_n 2, 1) := by decide +kernel
theorem dX5_changing_78 : decode cX5_changing 78 = .ok (.ireturn, 1) := by decide +kernel
set_option maxRecDepth 20000 in
theorem ggX5_free_X5_whoOn : GoodIn wsX5_free wsX5_whoOn := goodIn_r _ [5, 6, 7, 8, 9, 10, 11, 12, 13, 14, 15, 16, 17, 18, 19, 20, 21, 22, 23, 24, 25, 26, 27, 28, 29, 30, 31] (by decide +kernel) (by decide +kernel)
set_option maxRecDepth 20000 in
theorem gX5_free_X5_whoOn : GoodIn wsX5_free (wsV RX5 117 RX5 yX5_whoOn wsX5_whoOn) := goodIn_app (goodIn_of _ (by decide +kernel)) ggX5_free_X5_whoOn
theorem dX5_free_0 : decode cX5_free 0 = .ok (.iconst 0, 1) := by decide +kernel
theorem dX5_free_1 : decode cX5_free 1 = .ok (.istore_n 1, 1) := by decide +kernel
theorem dX5_free_2 : decode cX5_free 2 = .ok (.iconst 0, 1) := by decide +kernel
theorem dX5_free_3 : decode cX5_free 3 = .ok (.istore_n 2, 1) := by decide +kernel
theorem dX5_free_4 : decode cX5_free 4 = .ok (.iload_n 2, 1) := by decide +kernel
theorem dX5_free_5 : decode cX5_free 5 = .ok (.bipush 10, 2) := by decide +kernel
theorem dX5_free_7 : decode cX5_free 7 = .ok (.if_icmp .ge 27, 3) := by decide +kernel
theorem dX5_free_10 : decode cX5_free 10 = .ok (.iload_n 1, 1) := by decide +kernel
theorem dX5_free_11 : decode cX5_free 11 = .ok (.aload_n 0, 1) := by decide +kernel
theorem dX5_free_12 : decode cX5_free 12 = .ok (.iload_n 2, 1) := by decide +kernel
theorem dX5_free_13 : decode cX5_free 13 = .ok (.invokevirtual 117, 3) := by decide +kernel
theorem dX5_free_16 : decode cX5_free 16 = .ok (.ifCond .ge 9, 3) := by decide +kernel
theorem dX5_free_19 : decode cX5_free 19 = .ok (.iconst 1, 1) := by decide +kernel
theorem dX5_free_20 : decode cX5_free 20 = .ok (.iload_n 2, 1) := by decide +kernel
theorem dX5_free_21 : decode cX5_free 21 = .ok (.ishl, 1) := by decide +kernel
theorem dX5_free_22 : decode cX5_free 22 = .ok (.goto 4, 3) := by decide +kernel
theorem dX5_free_25 : decode cX5_free 25 = .ok (.iconst 0, 1) := by decide +kernel
theorem dX5_free_26 : decode cX5_free 26 = .ok (.ior, 1) := by decide +kernel
theorem dX5_free_27 : decode cX5_free 27 = .ok (.istore_n 1, 1) := by decide +kernel
theorem dX5_free_28 : decode cX5_free 28 = .ok (.iinc 2 1, 3) := by decide +kernel
theorem dX5_free_31 : decode cX5_free 31 = .ok (.goto (-27), 3) := by decide +kernel
theorem dX5_free_34 : decode cX5_free 34 = .ok (.iload_n 1, 1) := by decide +kernel
theorem dX5_free_35 : decode cX5_free 35 = .ok (.ireturn, 1) := by decide +kernel
set_option maxRecDepth 20000 in
theorem ggX5_ages_X5_isIn : GoodIn wsX5_ages wsX5_isIn := goodIn_r _ [4] (by decide +kernel) (by decide +kernel)
set_option maxRecDepth 20000 in
theorem gX5_ages_X5_isIn : GoodIn wsX5_ages (va_wsS RX5 79 yX5_isIn wsX5_isIn) := goodIn_app (goodIn_of _ (by decide +kernel)) ggX5_ages_X5_isIn
set_option maxRecDepth 20000 in
theorem ggX5_ages_X5_no : GoodIn wsX5_ages wsX5_no := goodIn_r _ [8, 9, 19, 20, 21, 22, 23, 24, 25, 26, 27, 28, 29, 30, 31, 32, 33, 34, 35, 36, 37, 38, 39, 40, 41, 42] (by decide +kernel) (by decide +kernel)
set_option maxRecDepth 20000 in
theorem gX5_ages_X5_no : GoodIn wsX5_ages (wsV RX5 68 RX5 yX5_no wsX5_no) := goodIn_app (goodIn_of _ (by decide +kernel)) ggX5_ages_X5_no
set_option maxRecDepth 20000 in
theorem ggX5_ages_X5_entryOf : GoodIn wsX5_ages wsX5_entryOf := goodIn_r _ [12] (by decide +kernel) (by decide +kernel)
set_option maxRecDepth 20000 in
theorem gX5_ages_X5_entryOf : GoodIn wsX5_ages (va_wsS RX5 113 yX5_entryOf wsX5_entryOf) := goodIn_app (goodIn_of _ (by decide +kernel)) ggX5_ages_X5_entryOf
set_option maxRecDepth 20000 in
theorem ggX5_ages_X5_whoOn : GoodIn wsX5_ages wsX5_whoOn := goodIn_r _ [16, 17, 18, 19, 20, 21, 22, 23, 24, 25, 26, 27, 28, 29, 30, 31, 32, 33, 34, 35, 36, 37, 38, 39, 40, 41, 42] (by decide +kernel) (by decide +kernel)
set_option maxRecDepth 20000 in
theorem gX5_ages_X5_whoOn : GoodIn wsX5_ages (wsV RX5 117 RX5 yX5_whoOn wsX5_whoOn) := goodIn_app (goodIn_of _ (by decide +kernel)) ggX5_ages_X5_whoOn
theorem dX5_ages_0 : decode cX5_ages 0 = .ok (.iload_n 1, 1) := by decide +kernel
theorem dX5_ages_1 : decode cX5_ages 1 = .ok (.iconst 0, 1) := by decide +kernel
theorem dX5_ages_2 : decode cX5_ages 2 = .ok (.iconst 5, 1) := by decide +kernel
theorem dX5_ages_3 : decode cX5_ages 3 = .ok (.invokestatic 79, 3) := by decide +kernel
theorem dX5_ages_6 : decode cX5_ages 6 = .ok (.ifCond .eq 12, 3) := by decide +kernel
theorem dX5_ages_9 : decode cX5_ages 9 = .ok (.iload_n 2, 1) := by decide +kernel
theorem dX5_ages_10 : decode cX5_ages 10 = .ok (.iconst 0, 1) := by decide +kernel
theorem dX5_ages_11 : decode cX5_ages 11 = .ok (.iconst 1, 1) := by decide +kernel
theorem dX5_ages_12 : decode cX5_ages 12 = .ok (.invokestatic 79, 3) := by decide +kernel
theorem dX5_ages_15 : decode cX5_ages 15 = .ok (.ifCond .ne 10, 3) := by decide +kernel
theorem dX5_ages_18 : decode cX5_ages 18 = .ok (.aload_n 0, 1) := by decide +kernel
theorem dX5_ages_19 : decode cX5_ages 19 = .ok (.bipush (-2), 2) := by decide +kernel
theorem dX5_ages_21 : decode cX5_ages 21 = .ok (.invokevirtual 68, 3) := by decide +kernel
theorem dX5_ages_24 : decode cX5_ages 24 = .ok (.ireturn, 1) := by decide +kernel
theorem dX5_ages_25 : decode cX5_ages 25 = .ok (.iconst 0, 1) := by decide +kernel
theorem dX5_ages_26 : decode cX5_ages 26 = .ok (.istore_n 3, 1) := by decide +kernel
theorem dX5_ages_27 : decode cX5_ages 27 = .ok (.bipush (-9), 2) := by decide +kernel
theorem dX5_ages_29 : decode cX5_ages 29 = .ok (.istore 4, 2) := by decide +kernel
theorem dX5_ages_31 : decode cX5_ages 31 = .ok (.iconst 0, 1) := by decide +kernel
theorem dX5_ages_32 : decode cX5_ages 32 = .ok (.istore 5, 2) := by decide +kernel
theorem dX5_ages_34 : decode cX5_ages 34 = .ok (.iload 5, 2) := by decide +kernel
theorem dX5_ages_36 : decode cX5_ages 36 = .ok (.bipush 99, 2) := by decide +kernel
theorem dX5_ages_38 : decode cX5_ages 38 = .ok (.if_icmp .gt 41, 3) := by decide +kernel
theorem dX5_ages_41 : decode cX5_ages 41 = .ok (.aload_n 0, 1) := by decide +kernel
theorem dX5_ages_42 : decode cX5_ages 42 = .ok (.iload_n 1, 1) := by decide +kernel
theorem dX5_ages_43 : decode cX5_ages 43 = .ok (.iload 5, 2) := by decide +kernel
theorem dX5_ages_45 : decode cX5_ages 45 = .ok (.invokestatic 113, 3) := by decide +kernel
theorem dX5_ages_48 : decode cX5_ages 48 = .ok (.invokevirtual 117, 3) := by decide +kernel
theorem dX5_ages_51 : decode cX5_ages 51 = .ok (.ifCond .lt 6, 3) := by decide +kernel
theorem dX5_ages_54 : decode cX5_ages 54 = .ok (.goto 19, 3) := by decide +kernel
theorem dX5_ages_57 : decode cX5_ages 57 = .ok (.iload_n 3, 1) := by decide +kernel
theorem dX5_ages_58 : decode cX5_ages 58 = .ok (.ifCond .ne 8, 3) := by decide +kernel
theorem dX5_ages_61 : decode cX5_ages 61 = .ok (.iload 5, 2) := by decide +kernel
theorem dX5_ages_63 : decode cX5_ages 63 = .ok (.goto 5, 3) := by decide +kernel
theorem dX5_ages_66 : decode cX5_ages 66 = .ok (.iload 4, 2) := by decide +kernel
theorem dX5_ages_68 : decode cX5_ages 68 = .ok (.istore 4, 2) := by decide +kernel
theorem dX5_ages_70 : decode cX5_ages 70 = .ok (.iinc 3 1, 3) := by decide +kernel
theorem dX5_ages_73 : decode cX5_ages 73 = .ok (.iinc 5 1, 3) := by decide +kernel
theorem dX5_ages_76 : decode cX5_ages 76 = .ok (.goto (-42), 3) := by decide +kernel
theorem dX5_ages_79 : decode cX5_ages 79 = .ok (.iload_n 2, 1) := by decide +kernel
theorem dX5_ages_80 : decode cX5_ages 80 = .ok (.ifCond .ne 7, 3) := by decide +kernel
theorem dX5_ages_83 : decode cX5_ages 83 = .ok (.iload_n 3, 1) := by decide +kernel
theorem dX5_ages_84 : decode cX5_ages 84 = .ok (.goto 5, 3) := by decide +kernel
theorem dX5_ages_87 : decode cX5_ages 87 = .ok (.iload 4, 2) := by decide +kernel
theorem dX5_ages_89 : decode cX5_ages 89 = .ok (.ireturn, 1) := by decide +kernel
set_option maxRecDepth 20000 in
theorem ggX5_row_X5_bound : GoodIn wsX5_row wsX5_bound := goodIn_r _ [6] (by decide +kernel) (by decide +kernel)
set_option maxRecDepth 20000 in
theorem gX5_row_X5_bound : GoodIn wsX5_row (va_wsS RX5 61 yX5_bound wsX5_bound) := goodIn_app (goodIn_of _ (by decide +kernel)) ggX5_row_X5_bound
set_option maxRecDepth 20000 in
theorem ggX5_row_X5_no : GoodIn wsX5_row wsX5_no := goodIn_r _ [10, 11, 12, 13, 14, 15, 16, 17, 18, 19, 20, 21, 22, 23, 24, 25, 26, 27, 28, 29, 30, 31, 32, 33, 34, 35] (by decide +kernel) (by decide +kernel)
set_option maxRecDepth 20000 in
theorem gX5_row_X5_no : GoodIn wsX5_row (wsV RX5 68 RX5 yX5_no wsX5_no) := goodIn_app (goodIn_of _ (by decide +kernel)) ggX5_row_X5_no
theorem dX5_row_0 : decode cX5_row 0 = .ok (.iload_n 1, 1) := by decide +kernel
theorem dX5_row_1 : decode cX5_row 1 = .ok (.iconst 0, 1) := by decide +kernel
theorem dX5_row_2 : decode cX5_row 2 = .ok (.bipush 10, 2) := by decide +kernel
theorem dX5_row_4 : decode cX5_row 4 = .ok (.invokestatic 61, 3) := by decide +kernel
theorem dX5_row_7 : decode cX5_row 7 = .ok (.istore_n 2, 1) := by decide +kernel
theorem dX5_row_8 : decode cX5_row 8 = .ok (.iload_n 2, 1) := by decide +kernel
theorem dX5_row_9 : decode cX5_row 9 = .ok (.ifCond .ne 15, 3) := by decide +kernel
theorem dX5_row_12 : decode cX5_row 12 = .ok (.aload_n 0, 1) := by decide +kernel
theorem dX5_row_13 : decode cX5_row 13 = .ok (.getfield 201, 3) := by decide +kernel
theorem dX5_row_16 : decode cX5_row 16 = .ok (.bipush 8, 2) := by decide +kernel
theorem dX5_row_18 : decode cX5_row 18 = .ok (.if_icmp .ne 6, 3) := by decide +kernel
theorem dX5_row_21 : decode cX5_row 21 = .ok (.bipush (-6), 2) := by decide +kernel
theorem dX5_row_23 : decode cX5_row 23 = .ok (.istore_n 2, 1) := by decide +kernel
theorem dX5_row_24 : decode cX5_row 24 = .ok (.iload_n 2, 1) := by decide +kernel
theorem dX5_row_25 : decode cX5_row 25 = .ok (.ifCond .eq 9, 3) := by decide +kernel
theorem dX5_row_28 : decode cX5_row 28 = .ok (.aload_n 0, 1) := by decide +kernel
theorem dX5_row_29 : decode cX5_row 29 = .ok (.iload_n 2, 1) := by decide +kernel
theorem dX5_row_30 : decode cX5_row 30 = .ok (.invokevirtual 68, 3) := by decide +kernel
theorem dX5_row_33 : decode cX5_row 33 = .ok (.ireturn, 1) := by decide +kernel
theorem dX5_row_34 : decode cX5_row 34 = .ok (.aload_n 0, 1) := by decide +kernel
theorem dX5_row_35 : decode cX5_row 35 = .ok (.getfield 52, 3) := by decide +kernel
theorem dX5_row_38 : decode cX5_row 38 = .ok (.aload_n 0, 1) := by decide +kernel
theorem dX5_row_39 : decode cX5_row 39 = .ok (.getfield 201, 3) := by decide +kernel
theorem dX5_row_42 : decode cX5_row 42 = .ok (.iload_n 1, 1) := by decide +kernel
theorem dX5_row_43 : decode cX5_row 43 = .ok (.iastore, 1) := by decide +kernel
theorem dX5_row_44 : decode cX5_row 44 = .ok (.aload_n 0, 1) := by decide +kernel
theorem dX5_row_45 : decode cX5_row 45 = .ok (.dup, 1) := by decide +kernel
theorem dX5_row_46 : decode cX5_row 46 = .ok (.getfield 201, 3) := by decide +kernel
theorem dX5_row_49 : decode cX5_row 49 = .ok (.iconst 1, 1) := by decide +kernel
theorem dX5_row_50 : decode cX5_row 50 = .ok (.iadd, 1) := by decide +kernel
theorem dX5_row_51 : decode cX5_row 51 = .ok (.putfield 201, 3) := by decide +kernel
theorem dX5_row_54 : decode cX5_row 54 = .ok (.aload_n 0, 1) := by decide +kernel
theorem dX5_row_55 : decode cX5_row 55 = .ok (.getfield 201, 3) := by decide +kernel
theorem dX5_row_58 : decode cX5_row 58 = .ok (.ireturn, 1) := by decide +kernel
set_option maxRecDepth 20000 in
theorem ggX5_doesFit_X5_movesOf : GoodIn wsX5_doesFit wsX5_movesOf := goodIn_r _ [8, 2, 9, 1, 10, 11, 12, 13, 14, 15, 16, 17, 18, 19, 20, 21, 22, 23, 24, 25, 26, 27, 28, 29, 30, 31, 32, 33] (by decide +kernel) (by decide +kernel)
set_option maxRecDepth 20000 in
theorem gX5_doesFit_X5_movesOf : GoodIn wsX5_doesFit (wsV RX5 156 RX5 yX5_movesOf wsX5_movesOf) := goodIn_app (goodIn_of _ (by decide +kernel)) ggX5_doesFit_X5_movesOf
theorem dX5_doesFit_0 : decode cX5_doesFit 0 = .ok (.iconst 0, 1) := by decide +kernel
theorem dX5_doesFit_1 : decode cX5_doesFit 1 = .ok (.istore_n 2, 1) := by decide +kernel
theorem dX5_doesFit_2 : decode cX5_doesFit 2 = .ok (.iconst 0, 1) := by decide +kernel
theorem dX5_doesFit_3 : decode cX5_doesFit 3 = .ok (.istore_n 3, 1) := by decide +kernel
theorem dX5_doesFit_4 : decode cX5_doesFit 4 = .ok (.iload_n 3, 1) := by decide +kernel
theorem dX5_doesFit_5 : decode cX5_doesFit 5 = .ok (.aload_n 0, 1) := by decide +kernel
theorem dX5_doesFit_6 : decode cX5_doesFit 6 = .ok (.getfield 57, 3) := by decide +kernel
theorem dX5_doesFit_9 : decode cX5_doesFit 9 = .ok (.if_icmp .ge 80, 3) := by decide +kernel
theorem dX5_doesFit_12 : decode cX5_doesFit 12 = .ok (.aload_n 0, 1) := by decide +kernel
theorem dX5_doesFit_13 : decode cX5_doesFit 13 = .ok (.getfield 19, 3) := by decide +kernel
theorem dX5_doesFit_16 : decode cX5_doesFit 16 = .ok (.iload_n 3, 1) := by decide +kernel
theorem dX5_doesFit_17 : decode cX5_doesFit 17 = .ok (.iaload, 1) := by decide +kernel
theorem dX5_doesFit_18 : decode cX5_doesFit 18 = .ok (.ifCond .ge 6, 3) := by decide +kernel
theorem dX5_doesFit_21 : decode cX5_doesFit 21 = .ok (.goto 62, 3) := by decide +kernel
theorem dX5_doesFit_24 : decode cX5_doesFit 24 = .ok (.iload_n 1, 1) := by decide +kernel
theorem dX5_doesFit_25 : decode cX5_doesFit 25 = .ok (.iload_n 3, 1) := by decide +kernel
theorem dX5_doesFit_26 : decode cX5_doesFit 26 = .ok (.ishr, 1) := by decide +kernel
theorem dX5_doesFit_27 : decode cX5_doesFit 27 = .ok (.iconst 1, 1) := by decide +kernel
theorem dX5_doesFit_28 : decode cX5_doesFit 28 = .ok (.iand, 1) := by decide +kernel
theorem dX5_doesFit_29 : decode cX5_doesFit 29 = .ok (.iconst 1, 1) := by decide +kernel
theorem dX5_doesFit_30 : decode cX5_doesFit 30 = .ok (.if_icmp .ne 7, 3) := by decide +kernel
theorem dX5_doesFit_33 : decode cX5_doesFit 33 = .ok (.iconst 1, 1) := by decide +kernel
theorem dX5_doesFit_34 : decode cX5_doesFit 34 = .ok (.goto 4, 3) := by decide +kernel
theorem dX5_doesFit_37 : decode cX5_doesFit 37 = .ok (.iconst 0, 1) := by decide +kernel
theorem dX5_doesFit_38 : decode cX5_doesFit 38 = .ok (.istore 4, 2) := by decide +kernel
theorem dX5_doesFit_40 : decode cX5_doesFit 40 = .ok (.aload_n 0, 1) := by decide +kernel
theorem dX5_doesFit_41 : decode cX5_doesFit 41 = .ok (.getfield 52, 3) := by decide +kernel
theorem dX5_doesFit_44 : decode cX5_doesFit 44 = .ok (.iload_n 2, 1) := by decide +kernel
theorem dX5_doesFit_45 : decode cX5_doesFit 45 = .ok (.iaload, 1) := by decide +kernel
theorem dX5_doesFit_46 : decode cX5_doesFit 46 = .ok (.bipush 10, 2) := by decide +kernel
theorem dX5_doesFit_48 : decode cX5_doesFit 48 = .ok (.if_icmp .eq 32, 3) := by decide +kernel
theorem dX5_doesFit_51 : decode cX5_doesFit 51 = .ok (.iload 4, 2) := by decide +kernel
theorem dX5_doesFit_53 : decode cX5_doesFit 53 = .ok (.ifCond .ne 25, 3) := by decide +kernel
theorem dX5_doesFit_56 : decode cX5_doesFit 56 = .ok (.aload_n 0, 1) := by decide +kernel
theorem dX5_doesFit_57 : decode cX5_doesFit 57 = .ok (.getfield 52, 3) := by decide +kernel
theorem dX5_doesFit_60 : decode cX5_doesFit 60 = .ok (.iload_n 2, 1) := by decide +kernel
theorem dX5_doesFit_61 : decode cX5_doesFit 61 = .ok (.iaload, 1) := by decide +kernel
theorem dX5_doesFit_62 : decode cX5_doesFit 62 = .ok (.aload_n 0, 1) := by decide +kernel
theorem dX5_doesFit_63 : decode cX5_doesFit 63 = .ok (.getfield 19, 3) := by decide +kernel
theorem dX5_doesFit_66 : decode cX5_doesFit 66 = .ok (.iload_n 3, 1) := by decide +kernel
theorem dX5_doesFit_67 : decode cX5_doesFit 67 = .ok (.iaload, 1) := by decide +kernel
theorem dX5_doesFit_68 : decode cX5_doesFit 68 = .ok (.aload_n 0, 1) := by decide +kernel
theorem dX5_doesFit_69 : decode cX5_doesFit 69 = .ok (.iload_n 3, 1) := by decide +kernel
theorem dX5_doesFit_70 : decode cX5_doesFit 70 = .ok (.iload_n 1, 1) := by decide +kernel
theorem dX5_doesFit_71 : decode cX5_doesFit 71 = .ok (.invokevirtual 156, 3) := by decide +kernel
theorem dX5_doesFit_74 : decode cX5_doesFit 74 = .ok (.iadd, 1) := by decide +kernel
theorem dX5_doesFit_75 : decode cX5_doesFit 75 = .ok (.if_icmp .eq 5, 3) := by decide +kernel
theorem dX5_doesFit_78 : decode cX5_doesFit 78 = .ok (.iconst 0, 1) := by decide +kernel
theorem dX5_doesFit_79 : decode cX5_doesFit 79 = .ok (.ireturn, 1) := by decide +kernel
theorem dX5_doesFit_80 : decode cX5_doesFit 80 = .ok (.iinc 2 1, 3) := by decide +kernel
theorem dX5_doesFit_83 : decode cX5_doesFit 83 = .ok (.iinc 3 1, 3) := by decide +kernel
theorem dX5_doesFit_86 : decode cX5_doesFit 86 = .ok (.goto (-82), 3) := by decide +kernel
theorem dX5_doesFit_89 : decode cX5_doesFit 89 = .ok (.iconst 1, 1) := by decide +kernel
theorem dX5_doesFit_90 : decode cX5_doesFit 90 = .ok (.ireturn, 1) := by decide +kernel
set_option maxRecDepth 20000 in
theorem ggX5_fitting_X5_isIn : GoodIn wsX5_fitting wsX5_isIn := goodIn_r _ [6] (by decide +kernel) (by decide +kernel)
set_option maxRecDepth 20000 in
theorem gX5_fitting_X5_isIn : GoodIn wsX5_fitting (va_wsS RX5 79 yX5_isIn wsX5_isIn) := goodIn_app (goodIn_of _ (by decide +kernel)) ggX5_fitting_X5_isIn
set_option maxRecDepth 20000 in
theorem ggX5_fitting_X5_no : GoodIn wsX5_fitting wsX5_no := goodIn_r _ [10, 11, 34, 35, 36, 37, 38, 39, 40, 41, 42, 43, 44, 45, 46, 47, 48, 49, 50, 51, 52, 53, 54, 55, 56, 57] (by decide +kernel) (by decide +kernel)
set_option maxRecDepth 20000 in
theorem gX5_fitting_X5_no : GoodIn wsX5_fitting (wsV RX5 68 RX5 yX5_no wsX5_no) := goodIn_app (goodIn_of _ (by decide +kernel)) ggX5_fitting_X5_no
set_option maxRecDepth 20000 in
theorem ggX5_fitting_X5_aliveBits : GoodIn wsX5_fitting wsX5_aliveBits := goodIn_r _ [15, 2, 16, 34, 35, 36, 37, 38, 39, 40, 41, 42, 43, 44, 45, 46, 47, 48, 49, 50, 51, 52, 53, 54, 55, 56, 57] (by decide +kernel) (by decide +kernel)
set_option maxRecDepth 20000 in
theorem gX5_fitting_X5_aliveBits : GoodIn wsX5_fitting (wsV RX5 159 RX5 yX5_aliveBits wsX5_aliveBits) := goodIn_app (goodIn_of _ (by decide +kernel)) ggX5_fitting_X5_aliveBits
set_option maxRecDepth 20000 in
theorem ggX5_fitting_X5_bits : GoodIn wsX5_fitting wsX5_bits := goodIn_r _ [19] (by decide +kernel) (by decide +kernel)
set_option maxRecDepth 20000 in
theorem gX5_fitting_X5_bits : GoodIn wsX5_fitting (va_wsS RX5 204 yX5_bits wsX5_bits) := goodIn_app (goodIn_of _ (by decide +kernel)) ggX5_fitting_X5_bits
set_option maxRecDepth 20000 in
theorem ggX5_fitting_X5_areAlive : GoodIn wsX5_fitting wsX5_areAlive := goodIn_r _ [23, 12, 13, 14, 5, 15, 2, 16, 34, 35, 36, 37, 38, 39, 40, 41, 42, 43, 44, 45, 46, 47, 48, 49, 50, 51, 52, 53, 54, 55, 56, 57] (by decide +kernel) (by decide +kernel)
set_option maxRecDepth 20000 in
theorem gX5_fitting_X5_areAlive : GoodIn wsX5_fitting (wsV RX5 171 RX5 yX5_areAlive wsX5_areAlive) := goodIn_app (goodIn_of _ (by decide +kernel)) ggX5_fitting_X5_areAlive
set_option maxRecDepth 20000 in
theorem ggX5_fitting_X5_doesFit : GoodIn wsX5_fitting wsX5_doesFit := goodIn_r _ [27, 2, 16, 28, 29, 30, 31, 5, 32, 33, 34, 35, 36, 37, 38, 39, 40, 41, 42, 43, 44, 45, 46, 47, 48, 49, 50, 51, 52, 53, 54, 55, 56, 57] (by decide +kernel) (by decide +kernel)
set_option maxRecDepth 20000 in
theorem gX5_fitting_X5_doesFit : GoodIn wsX5_fitting (wsV RX5 207 RX5 yX5_doesFit wsX5_doesFit) := goodIn_app (goodIn_of _ (by decide +kernel)) ggX5_fitting_X5_doesFit
theorem dX5_fitting_0 : decode cX5_fitting 0 = .ok (.iload_n 1, 1) := by decide +kernel
theorem dX5_fitting_1 : decode cX5_fitting 1 = .ok (.iconst 0, 1) := by decide +kernel
theorem dX5_fitting_2 : decode cX5_fitting 2 = .ok (.iconst 1, 1) := by decide +kernel
theorem dX5_fitting_3 : decode cX5_fitting 3 = .ok (.invokestatic 79, 3) := by decide +kernel
theorem dX5_fitting_6 : decode cX5_fitting 6 = .ok (.ifCond .ne 10, 3) := by decide +kernel
theorem dX5_fitting_9 : decode cX5_fitting 9 = .ok (.aload_n 0, 1) := by decide +kernel
theorem dX5_fitting_10 : decode cX5_fitting 10 = .ok (.bipush (-2), 2) := by decide +kernel
theorem dX5_fitting_12 : decode cX5_fitting 12 = .ok (.invokevirtual 68, 3) := by decide +kernel
theorem dX5_fitting_15 : decode cX5_fitting 15 = .ok (.ireturn, 1) := by decide +kernel
theorem dX5_fitting_16 : decode cX5_fitting 16 = .ok (.aload_n 0, 1) := by decide +kernel
theorem dX5_fitting_17 : decode cX5_fitting 17 = .ok (.getfield 201, 3) := by decide +kernel
theorem dX5_fitting_20 : decode cX5_fitting 20 = .ok (.aload_n 0, 1) := by decide +kernel
theorem dX5_fitting_21 : decode cX5_fitting 21 = .ok (.invokevirtual 159, 3) := by decide +kernel
theorem dX5_fitting_24 : decode cX5_fitting 24 = .ok (.invokestatic 204, 3) := by decide +kernel
theorem dX5_fitting_27 : decode cX5_fitting 27 = .ok (.if_icmp .eq 10, 3) := by decide +kernel
theorem dX5_fitting_30 : decode cX5_fitting 30 = .ok (.aload_n 0, 1) := by decide +kernel
theorem dX5_fitting_31 : decode cX5_fitting 31 = .ok (.bipush (-3), 2) := by decide +kernel
theorem dX5_fitting_33 : decode cX5_fitting 33 = .ok (.invokevirtual 68, 3) := by decide +kernel
theorem dX5_fitting_36 : decode cX5_fitting 36 = .ok (.ireturn, 1) := by decide +kernel
theorem dX5_fitting_37 : decode cX5_fitting 37 = .ok (.iconst 0, 1) := by decide +kernel
theorem dX5_fitting_38 : decode cX5_fitting 38 = .ok (.istore_n 2, 1) := by decide +kernel
theorem dX5_fitting_39 : decode cX5_fitting 39 = .ok (.bipush (-9), 2) := by decide +kernel
theorem dX5_fitting_41 : decode cX5_fitting 41 = .ok (.istore_n 3, 1) := by decide +kernel
theorem dX5_fitting_42 : decode cX5_fitting 42 = .ok (.iconst 0, 1) := by decide +kernel
theorem dX5_fitting_43 : decode cX5_fitting 43 = .ok (.istore 4, 2) := by decide +kernel
theorem dX5_fitting_45 : decode cX5_fitting 45 = .ok (.iload 4, 2) := by decide +kernel
theorem dX5_fitting_47 : decode cX5_fitting 47 = .ok (.iconst 1, 1) := by decide +kernel
theorem dX5_fitting_48 : decode cX5_fitting 48 = .ok (.aload_n 0, 1) := by decide +kernel
theorem dX5_fitting_49 : decode cX5_fitting 49 = .ok (.getfield 57, 3) := by decide +kernel
theorem dX5_fitting_52 : decode cX5_fitting 52 = .ok (.ishl, 1) := by decide +kernel
theorem dX5_fitting_53 : decode cX5_fitting 53 = .ok (.if_icmp .ge 44, 3) := by decide +kernel
theorem dX5_fitting_56 : decode cX5_fitting 56 = .ok (.aload_n 0, 1) := by decide +kernel
theorem dX5_fitting_57 : decode cX5_fitting 57 = .ok (.iload 4, 2) := by decide +kernel
theorem dX5_fitting_59 : decode cX5_fitting 59 = .ok (.invokevirtual 171, 3) := by decide +kernel
theorem dX5_fitting_62 : decode cX5_fitting 62 = .ok (.ifCond .eq 29, 3) := by decide +kernel
theorem dX5_fitting_65 : decode cX5_fitting 65 = .ok (.aload_n 0, 1) := by decide +kernel
theorem dX5_fitting_66 : decode cX5_fitting 66 = .ok (.iload 4, 2) := by decide +kernel
theorem dX5_fitting_68 : decode cX5_fitting 68 = .ok (.invokevirtual 207, 3) := by decide +kernel
theorem dX5_fitting_71 : decode cX5_fitting 71 = .ok (.ifCond .ne 6, 3) := by decide +kernel
theorem dX5_fitting_74 : decode cX5_fitting 74 = .ok (.goto 17, 3) := by decide +kernel
theorem dX5_fitting_77 : decode cX5_fitting 77 = .ok (.iload_n 2, 1) := by decide +kernel
theorem dX5_fitting_78 : decode cX5_fitting 78 = .ok (.ifCond .ne 8, 3) := by decide +kernel
theorem dX5_fitting_81 : decode cX5_fitting 81 = .ok (.iload 4, 2) := by decide +kernel
theorem dX5_fitting_83 : decode cX5_fitting 83 = .ok (.goto 4, 3) := by decide +kernel
theorem dX5_fitting_86 : decode cX5_fitting 86 = .ok (.iload_n 3, 1) := by decide +kernel
theorem dX5_fitting_87 : decode cX5_fitting 87 = .ok (.istore_n 3, 1) := by decide +kernel
theorem dX5_fitting_88 : decode cX5_fitting 88 = .ok (.iinc 2 1, 3) := by decide +kernel
theorem dX5_fitting_91 : decode cX5_fitting 91 = .ok (.iinc 4 1, 3) := by decide +kernel
theorem dX5_fitting_94 : decode cX5_fitting 94 = .ok (.goto (-49), 3) := by decide +kernel
theorem dX5_fitting_97 : decode cX5_fitting 97 = .ok (.iload_n 1, 1) := by decide +kernel
theorem dX5_fitting_98 : decode cX5_fitting 98 = .ok (.ifCond .ne 7, 3) := by decide +kernel
theorem dX5_fitting_101 : decode cX5_fitting 101 = .ok (.iload_n 2, 1) := by decide +kernel
theorem dX5_fitting_102 : decode cX5_fitting 102 = .ok (.goto 4, 3) := by decide +kernel
theorem dX5_fitting_105 : decode cX5_fitting 105 = .ok (.iload_n 3, 1) := by decide +kernel
theorem dX5_fitting_106 : decode cX5_fitting 106 = .ok (.ireturn, 1) := by decide +kernel
theorem dX5_judge_0 : decode cX5_judge 0 = .ok (.aload_n 0, 1) := by decide +kernel
theorem dX5_judge_1 : decode cX5_judge 1 = .ok (.getfield 201, 3) := by decide +kernel
theorem dX5_judge_4 : decode cX5_judge 4 = .ok (.istore_n 1, 1) := by decide +kernel
theorem dX5_judge_5 : decode cX5_judge 5 = .ok (.aload_n 0, 1) := by decide +kernel
theorem dX5_judge_6 : decode cX5_judge 6 = .ok (.iconst 0, 1) := by decide +kernel
theorem dX5_judge_7 : decode cX5_judge 7 = .ok (.putfield 201, 3) := by decide +kernel
theorem dX5_judge_10 : decode cX5_judge 10 = .ok (.iconst 0, 1) := by decide +kernel
theorem dX5_judge_11 : decode cX5_judge 11 = .ok (.istore_n 2, 1) := by decide +kernel
theorem dX5_judge_12 : decode cX5_judge 12 = .ok (.iconst 0, 1) := by decide +kernel
theorem dX5_judge_13 : decode cX5_judge 13 = .ok (.istore_n 3, 1) := by decide +kernel
theorem dX5_judge_14 : decode cX5_judge 14 = .ok (.iload_n 3, 1) := by decide +kernel
theorem dX5_judge_15 : decode cX5_judge 15 = .ok (.aload_n 0, 1) := by decide +kernel
theorem dX5_judge_16 : decode cX5_judge 16 = .ok (.getfield 57, 3) := by decide +kernel
theorem dX5_judge_19 : decode cX5_judge 19 = .ok (.if_icmp .ge 46, 3) := by decide +kernel
theorem dX5_judge_22 : decode cX5_judge 22 = .ok (.aload_n 0, 1) := by decide +kernel
theorem dX5_judge_23 : decode cX5_judge 23 = .ok (.getfield 19, 3) := by decide +kernel
theorem dX5_judge_26 : decode cX5_judge 26 = .ok (.iload_n 3, 1) := by decide +kernel
theorem dX5_judge_27 : decode cX5_judge 27 = .ok (.iaload, 1) := by decide +kernel
theorem dX5_judge_28 : decode cX5_judge 28 = .ok (.ifCond .ge 6, 3) := by decide +kernel
theorem dX5_judge_31 : decode cX5_judge 31 = .ok (.goto 28, 3) := by decide +kernel
theorem dX5_judge_34 : decode cX5_judge 34 = .ok (.iload_n 2, 1) := by decide +kernel
theorem dX5_judge_35 : decode cX5_judge 35 = .ok (.iload_n 1, 1) := by decide +kernel
theorem dX5_judge_36 : decode cX5_judge 36 = .ok (.if_icmp .eq 18, 3) := by decide +kernel
theorem dX5_judge_39 : decode cX5_judge 39 = .ok (.aload_n 0, 1) := by decide +kernel
theorem dX5_judge_40 : decode cX5_judge 40 = .ok (.getfield 52, 3) := by decide +kernel
theorem dX5_judge_43 : decode cX5_judge 43 = .ok (.iload_n 2, 1) := by decide +kernel
theorem dX5_judge_44 : decode cX5_judge 44 = .ok (.iaload, 1) := by decide +kernel
theorem dX5_judge_45 : decode cX5_judge 45 = .ok (.aload_n 0, 1) := by decide +kernel
theorem dX5_judge_46 : decode cX5_judge 46 = .ok (.getfield 19, 3) := by decide +kernel
theorem dX5_judge_49 : decode cX5_judge 49 = .ok (.iload_n 3, 1) := by decide +kernel
theorem dX5_judge_50 : decode cX5_judge 50 = .ok (.iaload, 1) := by decide +kernel
theorem dX5_judge_51 : decode cX5_judge 51 = .ok (.if_icmp .eq 5, 3) := by decide +kernel
theorem dX5_judge_54 : decode cX5_judge 54 = .ok (.iload_n 2, 1) := by decide +kernel
theorem dX5_judge_55 : decode cX5_judge 55 = .ok (.ireturn, 1) := by decide +kernel
theorem dX5_judge_56 : decode cX5_judge 56 = .ok (.iinc 2 1, 3) := by decide +kernel
theorem dX5_judge_59 : decode cX5_judge 59 = .ok (.iinc 3 1, 3) := by decide +kernel
theorem dX5_judge_62 : decode cX5_judge 62 = .ok (.goto (-48), 3) := by decide +kernel
theorem dX5_judge_65 : decode cX5_judge 65 = .ok (.iload_n 1, 1) := by decide +kernel
theorem dX5_judge_66 : decode cX5_judge 66 = .ok (.iload_n 2, 1) := by decide +kernel
theorem dX5_judge_67 : decode cX5_judge 67 = .ok (.if_icmp .le 7, 3) := by decide +kernel
theorem dX5_judge_70 : decode cX5_judge 70 = .ok (.iload_n 2, 1) := by decide +kernel
theorem dX5_judge_71 : decode cX5_judge 71 = .ok (.goto 5, 3) := by decide +kernel
theorem dX5_judge_74 : decode cX5_judge 74 = .ok (.bipush (-9), 2) := by decide +kernel
theorem dX5_judge_76 : decode cX5_judge 76 = .ok (.ireturn, 1) := by decide +kernel
set_option maxRecDepth 20000 in
theorem ggX5_lots_X5_bound : GoodIn wsX5_lots wsX5_bound := goodIn_r _ [9] (by decide +kernel) (by decide +kernel)
set_option maxRecDepth 20000 in
theorem gX5_lots_X5_bound : GoodIn wsX5_lots (va_wsS RX5 61 yX5_bound wsX5_bound) := goodIn_app (goodIn_of _ (by decide +kernel)) ggX5_lots_X5_bound
set_option maxRecDepth 20000 in
theorem ggX5_lots_X5_no : GoodIn wsX5_lots wsX5_no := goodIn_r _ [13, 14, 55, 56, 57, 58, 59, 60, 61, 62, 63, 64, 65, 66, 67, 68, 69, 70, 71, 72, 73, 74, 75, 76, 77, 78] (by decide +kernel) (by decide +kernel)
set_option maxRecDepth 20000 in
theorem gX5_lots_X5_no : GoodIn wsX5_lots (wsV RX5 68 RX5 yX5_no wsX5_no) := goodIn_app (goodIn_of _ (by decide +kernel)) ggX5_lots_X5_no
set_option maxRecDepth 20000 in
theorem ggX5_lots_X5_passesAll : GoodIn wsX5_lots wsX5_passesAll := goodIn_r _ [18, 19, 20, 21, 22, 2, 23, 24, 1, 25, 26, 27, 28, 8, 29, 30, 31, 32, 33, 34, 55, 56, 57, 58, 59, 60, 61, 62, 63, 64, 65, 66, 67, 68, 69, 70, 71, 72, 73, 74, 75, 76, 77, 78] (by decide +kernel) (by decide +kernel)
set_option maxRecDepth 20000 in
theorem gX5_lots_X5_passesAll : GoodIn wsX5_lots (wsV RX5 129 RX5 yX5_passesAll wsX5_passesAll) := goodIn_app (goodIn_of _ (by decide +kernel)) ggX5_lots_X5_passesAll
set_option maxRecDepth 20000 in
theorem ggX5_lots_X5_chanceOf : GoodIn wsX5_lots wsX5_chanceOf := goodIn_r _ [38, 22, 21, 39, 40, 8, 41, 55, 56, 57, 58, 59, 60, 61, 62, 63, 64, 65, 66, 67, 68, 69, 70, 71, 72, 73, 74, 75, 76, 77, 78] (by decide +kernel) (by decide +kernel)
set_option maxRecDepth 20000 in
theorem gX5_lots_X5_chanceOf : GoodIn wsX5_lots (wsV RX5 162 RX5 yX5_chanceOf wsX5_chanceOf) := goodIn_app (goodIn_of _ (by decide +kernel)) ggX5_lots_X5_chanceOf
set_option maxRecDepth 20000 in
theorem ggX5_lots_X5_goesYear : GoodIn wsX5_lots wsX5_goesYear := goodIn_r _ [45, 1, 46, 2, 22, 25, 47, 48, 49, 8, 50, 21, 39, 40, 41, 55, 56, 57, 58, 59, 60, 61, 62, 63, 64, 65, 66, 67, 68, 69, 70, 71, 72, 73, 74, 75, 76, 77, 78] (by decide +kernel) (by decide +kernel)
set_option maxRecDepth 20000 in
theorem gX5_lots_X5_goesYear : GoodIn wsX5_lots (wsV RX5 110 RX5 yX5_goesYear wsX5_goesYear) := goodIn_app (goodIn_of _ (by decide +kernel)) ggX5_lots_X5_goesYear
set_option maxRecDepth 20000 in
theorem ggX5_lots_X5_aliveBits : GoodIn wsX5_lots wsX5_aliveBits := goodIn_r _ [54, 1, 2, 55, 56, 57, 58, 59, 60, 61, 62, 63, 64, 65, 66, 67, 68, 69, 70, 71, 72, 73, 74, 75, 76, 77, 78] (by decide +kernel) (by decide +kernel)
set_option maxRecDepth 20000 in
theorem gX5_lots_X5_aliveBits : GoodIn wsX5_lots (wsV RX5 159 RX5 yX5_aliveBits wsX5_aliveBits) := goodIn_app (goodIn_of _ (by decide +kernel)) ggX5_lots_X5_aliveBits
theorem dX5_lots_0 : decode cX5_lots 0 = .ok (.iload_n 1, 1) := by decide +kernel
theorem dX5_lots_1 : decode cX5_lots 1 = .ok (.iconst 1, 1) := by decide +kernel
theorem dX5_lots_2 : decode cX5_lots 2 = .ok (.bipush 40, 2) := by decide +kernel
theorem dX5_lots_4 : decode cX5_lots 4 = .ok (.invokestatic 61, 3) := by decide +kernel
theorem dX5_lots_7 : decode cX5_lots 7 = .ok (.istore_n 3, 1) := by decide +kernel
theorem dX5_lots_8 : decode cX5_lots 8 = .ok (.iload_n 3, 1) := by decide +kernel
theorem dX5_lots_9 : decode cX5_lots 9 = .ok (.ifCond .eq 9, 3) := by decide +kernel
theorem dX5_lots_12 : decode cX5_lots 12 = .ok (.aload_n 0, 1) := by decide +kernel
theorem dX5_lots_13 : decode cX5_lots 13 = .ok (.iload_n 3, 1) := by decide +kernel
theorem dX5_lots_14 : decode cX5_lots 14 = .ok (.invokevirtual 68, 3) := by decide +kernel
theorem dX5_lots_17 : decode cX5_lots 17 = .ok (.ireturn, 1) := by decide +kernel
theorem dX5_lots_18 : decode cX5_lots 18 = .ok (.aload_n 0, 1) := by decide +kernel
theorem dX5_lots_19 : decode cX5_lots 19 = .ok (.iconst 1, 1) := by decide +kernel
theorem dX5_lots_20 : decode cX5_lots 20 = .ok (.iconst 1, 1) := by decide +kernel
theorem dX5_lots_21 : decode cX5_lots 21 = .ok (.invokevirtual 129, 3) := by decide +kernel
theorem dX5_lots_24 : decode cX5_lots 24 = .ok (.iload_n 2, 1) := by decide +kernel
theorem dX5_lots_25 : decode cX5_lots 25 = .ok (.istore 4, 2) := by decide +kernel
theorem dX5_lots_27 : decode cX5_lots 27 = .ok (.iconst 0, 1) := by decide +kernel
theorem dX5_lots_28 : decode cX5_lots 28 = .ok (.istore 5, 2) := by decide +kernel
theorem dX5_lots_30 : decode cX5_lots 30 = .ok (.iload 5, 2) := by decide +kernel
theorem dX5_lots_32 : decode cX5_lots 32 = .ok (.iload_n 1, 1) := by decide +kernel
theorem dX5_lots_33 : decode cX5_lots 33 = .ok (.if_icmp .ge 94, 3) := by decide +kernel
theorem dX5_lots_36 : decode cX5_lots 36 = .ok (.iconst 0, 1) := by decide +kernel
theorem dX5_lots_37 : decode cX5_lots 37 = .ok (.istore 6, 2) := by decide +kernel
theorem dX5_lots_39 : decode cX5_lots 39 = .ok (.iconst 0, 1) := by decide +kernel
theorem dX5_lots_40 : decode cX5_lots 40 = .ok (.istore 7, 2) := by decide +kernel
theorem dX5_lots_42 : decode cX5_lots 42 = .ok (.iload 7, 2) := by decide +kernel
theorem dX5_lots_44 : decode cX5_lots 44 = .ok (.aload_n 0, 1) := by decide +kernel
theorem dX5_lots_45 : decode cX5_lots 45 = .ok (.getfield 57, 3) := by decide +kernel
theorem dX5_lots_48 : decode cX5_lots 48 = .ok (.if_icmp .ge 66, 3) := by decide +kernel
theorem dX5_lots_51 : decode cX5_lots 51 = .ok (.aload_n 0, 1) := by decide +kernel
theorem dX5_lots_52 : decode cX5_lots 52 = .ok (.getfield 19, 3) := by decide +kernel
theorem dX5_lots_55 : decode cX5_lots 55 = .ok (.iload 7, 2) := by decide +kernel
theorem dX5_lots_57 : decode cX5_lots 57 = .ok (.iaload, 1) := by decide +kernel
theorem dX5_lots_58 : decode cX5_lots 58 = .ok (.ifCond .ge 6, 3) := by decide +kernel
theorem dX5_lots_61 : decode cX5_lots 61 = .ok (.goto 47, 3) := by decide +kernel
theorem dX5_lots_64 : decode cX5_lots 64 = .ok (.iload 4, 2) := by decide +kernel
theorem dX5_lots_66 : decode cX5_lots 66 = .ok (.ldc 210, 2) := by decide +kernel
theorem dX5_lots_68 : decode cX5_lots 68 = .ok (.imul, 1) := by decide +kernel
theorem dX5_lots_69 : decode cX5_lots 69 = .ok (.ldc 211, 2) := by decide +kernel
theorem dX5_lots_71 : decode cX5_lots 71 = .ok (.iadd, 1) := by decide +kernel
theorem dX5_lots_72 : decode cX5_lots 72 = .ok (.istore 4, 2) := by decide +kernel
theorem dX5_lots_74 : decode cX5_lots 74 = .ok (.iload 6, 2) := by decide +kernel
theorem dX5_lots_76 : decode cX5_lots 76 = .ok (.iload 4, 2) := by decide +kernel
theorem dX5_lots_78 : decode cX5_lots 78 = .ok (.ldc 212, 2) := by decide +kernel
theorem dX5_lots_80 : decode cX5_lots 80 = .ok (.iand, 1) := by decide +kernel
theorem dX5_lots_81 : decode cX5_lots 81 = .ok (.sipush 256, 3) := by decide +kernel
theorem dX5_lots_84 : decode cX5_lots 84 = .ok (.idiv, 1) := by decide +kernel
theorem dX5_lots_85 : decode cX5_lots 85 = .ok (.bipush 10, 2) := by decide +kernel
theorem dX5_lots_87 : decode cX5_lots 87 = .ok (.irem, 1) := by decide +kernel
theorem dX5_lots_88 : decode cX5_lots 88 = .ok (.aload_n 0, 1) := by decide +kernel
theorem dX5_lots_89 : decode cX5_lots 89 = .ok (.iload 7, 2) := by decide +kernel
theorem dX5_lots_91 : decode cX5_lots 91 = .ok (.invokevirtual 162, 3) := by decide +kernel
theorem dX5_lots_94 : decode cX5_lots 94 = .ok (.if_icmp .ge 10, 3) := by decide +kernel
theorem dX5_lots_97 : decode cX5_lots 97 = .ok (.iconst 1, 1) := by decide +kernel
theorem dX5_lots_98 : decode cX5_lots 98 = .ok (.iload 7, 2) := by decide +kernel
theorem dX5_lots_100 : decode cX5_lots 100 = .ok (.ishl, 1) := by decide +kernel
theorem dX5_lots_101 : decode cX5_lots 101 = .ok (.goto 4, 3) := by decide +kernel
theorem dX5_lots_104 : decode cX5_lots 104 = .ok (.iconst 0, 1) := by decide +kernel
theorem dX5_lots_105 : decode cX5_lots 105 = .ok (.ior, 1) := by decide +kernel
theorem dX5_lots_106 : decode cX5_lots 106 = .ok (.istore 6, 2) := by decide +kernel
theorem dX5_lots_108 : decode cX5_lots 108 = .ok (.iinc 7 1, 3) := by decide +kernel
theorem dX5_lots_111 : decode cX5_lots 111 = .ok (.goto (-69), 3) := by decide +kernel
theorem dX5_lots_114 : decode cX5_lots 114 = .ok (.aload_n 0, 1) := by decide +kernel
theorem dX5_lots_115 : decode cX5_lots 115 = .ok (.iload 6, 2) := by decide +kernel
theorem dX5_lots_117 : decode cX5_lots 117 = .ok (.invokevirtual 110, 3) := by decide +kernel
theorem dX5_lots_120 : decode cX5_lots 120 = .ok (.pop, 1) := by decide +kernel
theorem dX5_lots_121 : decode cX5_lots 121 = .ok (.iinc 5 1, 3) := by decide +kernel
theorem dX5_lots_124 : decode cX5_lots 124 = .ok (.goto (-94), 3) := by decide +kernel
theorem dX5_lots_127 : decode cX5_lots 127 = .ok (.aload_n 0, 1) := by decide +kernel
theorem dX5_lots_128 : decode cX5_lots 128 = .ok (.invokevirtual 159, 3) := by decide +kernel
theorem dX5_lots_131 : decode cX5_lots 131 = .ok (.istore 5, 2) := by decide +kernel
theorem dX5_lots_133 : decode cX5_lots 133 = .ok (.aload_n 0, 1) := by decide +kernel
theorem dX5_lots_134 : decode cX5_lots 134 = .ok (.iconst 1, 1) := by decide +kernel
theorem dX5_lots_135 : decode cX5_lots 135 = .ok (.iconst 0, 1) := by decide +kernel
theorem dX5_lots_136 : decode cX5_lots 136 = .ok (.invokevirtual 129, 3) := by decide +kernel
theorem dX5_lots_139 : decode cX5_lots 139 = .ok (.iload 5, 2) := by decide +kernel
theorem dX5_lots_141 : decode cX5_lots 141 = .ok (.ireturn, 1) := by decide +kernel
set_option maxRecDepth 20000 in
theorem ggX5_count_X5_isIn : GoodIn wsX5_count wsX5_isIn := goodIn_r _ [12] (by decide +kernel) (by decide +kernel)
set_option maxRecDepth 20000 in
theorem gX5_count_X5_isIn : GoodIn wsX5_count (va_wsS RX5 79 yX5_isIn wsX5_isIn) := goodIn_app (goodIn_of _ (by decide +kernel)) ggX5_count_X5_isIn
set_option maxRecDepth 20000 in
theorem ggX5_count_X5_aliveBits : GoodIn wsX5_count wsX5_aliveBits := goodIn_r _ [16, 2, 4, 20, 21, 22, 23, 24, 25, 26, 27, 28, 29, 30, 31, 32, 33, 34, 35, 36, 37, 38, 39, 40, 41, 42, 43] (by decide +kernel) (by decide +kernel)
set_option maxRecDepth 20000 in
theorem gX5_count_X5_aliveBits : GoodIn wsX5_count (wsV RX5 159 RX5 yX5_aliveBits wsX5_aliveBits) := goodIn_app (goodIn_of _ (by decide +kernel)) ggX5_count_X5_aliveBits
set_option maxRecDepth 20000 in
theorem ggX5_count_X5_bits : GoodIn wsX5_count wsX5_bits := goodIn_r _ [19] (by decide +kernel) (by decide +kernel)
set_option maxRecDepth 20000 in
theorem gX5_count_X5_bits : GoodIn wsX5_count (va_wsS RX5 204 yX5_bits wsX5_bits) := goodIn_app (goodIn_of _ (by decide +kernel)) ggX5_count_X5_bits
theorem dX5_count_0 : decode cX5_count 0 = .ok (.iload_n 1, 1) := by decide +kernel
theorem dX5_count_1 : decode cX5_count 1 = .ok (.bipush 11, 2) := by decide +kernel
theorem dX5_count_3 : decode cX5_count 3 = .ok (.bipush 16, 2) := by decide +kernel
theorem dX5_count_5 : decode cX5_count 5 = .ok (.invokestatic 79, 3) := by decide +kernel
theorem dX5_count_8 : decode cX5_count 8 = .ok (.ifCond .eq 13, 3) := by decide +kernel
theorem dX5_count_11 : decode cX5_count 11 = .ok (.aload_n 0, 1) := by decide +kernel
theorem dX5_count_12 : decode cX5_count 12 = .ok (.getfield 7, 3) := by decide +kernel
theorem dX5_count_15 : decode cX5_count 15 = .ok (.iload_n 1, 1) := by decide +kernel
theorem dX5_count_16 : decode cX5_count 16 = .ok (.bipush 10, 2) := by decide +kernel
theorem dX5_count_18 : decode cX5_count 18 = .ok (.isub, 1) := by decide +kernel
theorem dX5_count_19 : decode cX5_count 19 = .ok (.iaload, 1) := by decide +kernel
theorem dX5_count_20 : decode cX5_count 20 = .ok (.ireturn, 1) := by decide +kernel
theorem dX5_count_21 : decode cX5_count 21 = .ok (.iconst 0, 1) := by decide +kernel
theorem dX5_count_22 : decode cX5_count 22 = .ok (.istore_n 2, 1) := by decide +kernel
theorem dX5_count_23 : decode cX5_count 23 = .ok (.iload_n 1, 1) := by decide +kernel
theorem dX5_count_24 : decode cX5_count 24 = .ok (.tableswitch 152 0 6 #[44, 52, 57, 62, 102, 142, 147], 44) := by decide +kernel
theorem dX5_count_68 : decode cX5_count 68 = .ok (.aload_n 0, 1) := by decide +kernel
theorem dX5_count_69 : decode cX5_count 69 = .ok (.invokevirtual 159, 3) := by decide +kernel
theorem dX5_count_72 : decode cX5_count 72 = .ok (.invokestatic 204, 3) := by decide +kernel
theorem dX5_count_75 : decode cX5_count 75 = .ok (.ireturn, 1) := by decide +kernel
theorem dX5_count_76 : decode cX5_count 76 = .ok (.aload_n 0, 1) := by decide +kernel
theorem dX5_count_77 : decode cX5_count 77 = .ok (.getfield 57, 3) := by decide +kernel
theorem dX5_count_80 : decode cX5_count 80 = .ok (.ireturn, 1) := by decide +kernel
theorem dX5_count_81 : decode cX5_count 81 = .ok (.aload_n 0, 1) := by decide +kernel
theorem dX5_count_82 : decode cX5_count 82 = .ok (.getfield 107, 3) := by decide +kernel
theorem dX5_count_85 : decode cX5_count 85 = .ok (.ireturn, 1) := by decide +kernel
theorem dX5_count_86 : decode cX5_count 86 = .ok (.iconst 0, 1) := by decide +kernel
theorem dX5_count_87 : decode cX5_count 87 = .ok (.istore_n 3, 1) := by decide +kernel
theorem dX5_count_88 : decode cX5_count 88 = .ok (.iload_n 3, 1) := by decide +kernel
theorem dX5_count_89 : decode cX5_count 89 = .ok (.aload_n 0, 1) := by decide +kernel
theorem dX5_count_90 : decode cX5_count 90 = .ok (.getfield 57, 3) := by decide +kernel
theorem dX5_count_93 : decode cX5_count 93 = .ok (.if_icmp .ge 31, 3) := by decide +kernel
theorem dX5_count_96 : decode cX5_count 96 = .ok (.iload_n 2, 1) := by decide +kernel
theorem dX5_count_97 : decode cX5_count 97 = .ok (.aload_n 0, 1) := by decide +kernel
theorem dX5_count_98 : decode cX5_count 98 = .ok (.getfield 19, 3) := by decide +kernel
theorem dX5_count_101 : decode cX5_count 101 = .ok (.iload_n 3, 1) := by decide +kernel
theorem dX5_count_102 : decode cX5_count 102 = .ok (.iaload, 1) := by decide +kernel
theorem dX5_count_103 : decode cX5_count 103 = .ok (.ifCond .ge 7, 3) := by decide +kernel
theorem dX5_count_106 : decode cX5_count 106 = .ok (.iconst 0, 1) := by decide +kernel
theorem dX5_count_107 : decode cX5_count 107 = .ok (.goto 9, 3) := by decide +kernel
theorem dX5_count_110 : decode cX5_count 110 = .ok (.aload_n 0, 1) := by decide +kernel
theorem dX5_count_111 : decode cX5_count 111 = .ok (.getfield 22, 3) := by decide +kernel
theorem dX5_count_114 : decode cX5_count 114 = .ok (.iload_n 3, 1) := by decide +kernel
theorem dX5_count_115 : decode cX5_count 115 = .ok (.iaload, 1) := by decide +kernel
theorem dX5_count_116 : decode cX5_count 116 = .ok (.iadd, 1) := by decide +kernel
theorem dX5_count_117 : decode cX5_count 117 = .ok (.istore_n 2, 1) := by decide +kernel
theorem dX5_count_118 : decode cX5_count 118 = .ok (.iinc 3 1, 3) := by decide +kernel
theorem dX5_count_121 : decode cX5_count 121 = .ok (.goto (-33), 3) := by decide +kernel
theorem dX5_count_124 : decode cX5_count 124 = .ok (.iload_n 2, 1) := by decide +kernel
theorem dX5_count_125 : decode cX5_count 125 = .ok (.ireturn, 1) := by decide +kernel
theorem dX5_count_126 : decode cX5_count 126 = .ok (.iconst 0, 1) := by decide +kernel
theorem dX5_count_127 : decode cX5_count 127 = .ok (.istore_n 3, 1) := by decide +kernel
theorem dX5_count_128 : decode cX5_count 128 = .ok (.iload_n 3, 1) := by decide +kernel
theorem dX5_count_129 : decode cX5_count 129 = .ok (.aload_n 0, 1) := by decide +kernel
theorem dX5_count_130 : decode cX5_count 130 = .ok (.getfield 57, 3) := by decide +kernel
theorem dX5_count_133 : decode cX5_count 133 = .ok (.if_icmp .ge 31, 3) := by decide +kernel
theorem dX5_count_136 : decode cX5_count 136 = .ok (.iload_n 2, 1) := by decide +kernel
theorem dX5_count_137 : decode cX5_count 137 = .ok (.aload_n 0, 1) := by decide +kernel
theorem dX5_count_138 : decode cX5_count 138 = .ok (.getfield 19, 3) := by decide +kernel
theorem dX5_count_141 : decode cX5_count 141 = .ok (.iload_n 3, 1) := by decide +kernel
theorem dX5_count_142 : decode cX5_count 142 = .ok (.iaload, 1) := by decide +kernel
theorem dX5_count_143 : decode cX5_count 143 = .ok (.ifCond .ge 7, 3) := by decide +kernel
theorem dX5_count_146 : decode cX5_count 146 = .ok (.iconst 0, 1) := by decide +kernel
theorem dX5_count_147 : decode cX5_count 147 = .ok (.goto 9, 3) := by decide +kernel
theorem dX5_count_150 : decode cX5_count 150 = .ok (.aload_n 0, 1) := by decide +kernel
theorem dX5_count_151 : decode cX5_count 151 = .ok (.getfield 16, 3) := by decide +kernel
theorem dX5_count_154 : decode cX5_count 154 = .ok (.iload_n 3, 1) := by decide +kernel
theorem dX5_count_155 : decode cX5_count 155 = .ok (.iaload, 1) := by decide +kernel
theorem dX5_count_156 : decode cX5_count 156 = .ok (.iadd, 1) := by decide +kernel
theorem dX5_count_157 : decode cX5_count 157 = .ok (.istore_n 2, 1) := by decide +kernel
theorem dX5_count_158 : decode cX5_count 158 = .ok (.iinc 3 1, 3) := by decide +kernel
theorem dX5_count_161 : decode cX5_count 161 = .ok (.goto (-33), 3) := by decide +kernel
theorem dX5_count_164 : decode cX5_count 164 = .ok (.iload_n 2, 1) := by decide +kernel
theorem dX5_count_165 : decode cX5_count 165 = .ok (.ireturn, 1) := by decide +kernel
theorem dX5_count_166 : decode cX5_count 166 = .ok (.aload_n 0, 1) := by decide +kernel
theorem dX5_count_167 : decode cX5_count 167 = .ok (.getfield 201, 3) := by decide +kernel
theorem dX5_count_170 : decode cX5_count 170 = .ok (.ireturn, 1) := by decide +kernel
theorem dX5_count_171 : decode cX5_count 171 = .ok (.aload_n 0, 1) := by decide +kernel
theorem dX5_count_172 : decode cX5_count 172 = .ok (.getfield 65, 3) := by decide +kernel
theorem dX5_count_175 : decode cX5_count 175 = .ok (.ireturn, 1) := by decide +kernel
theorem dX5_count_176 : decode cX5_count 176 = .ok (.bipush (-9), 2) := by decide +kernel
theorem dX5_count_178 : decode cX5_count 178 = .ok (.ireturn, 1) := by decide +kernel
theorem dJ6_bitCount_0f7a4_0 : decode cJ6_bitCount_0f7a4 0 = .ok (.iload_n 0, 1) := by decide +kernel
theorem dJ6_bitCount_0f7a4_1 : decode cJ6_bitCount_0f7a4 1 = .ok (.iload_n 0, 1) := by decide +kernel
theorem dJ6_bitCount_0f7a4_2 : decode cJ6_bitCount_0f7a4 2 = .ok (.iconst 1, 1) := by decide +kernel
theorem dJ6_bitCount_0f7a4_3 : decode cJ6_bitCount_0f7a4 3 = .ok (.iushr, 1) := by decide +kernel
theorem dJ6_bitCount_0f7a4_4 : decode cJ6_bitCount_0f7a4 4 = .ok (.ldc_w 265, 3) := by decide +kernel
theorem dJ6_bitCount_0f7a4_7 : decode cJ6_bitCount_0f7a4 7 = .ok (.iand, 1) := by decide +kernel
theorem dJ6_bitCount_0f7a4_8 : decode cJ6_bitCount_0f7a4 8 = .ok (.isub, 1) := by decide +kernel
theorem dJ6_bitCount_0f7a4_9 : decode cJ6_bitCount_0f7a4 9 = .ok (.istore_n 0, 1) := by decide +kernel
theorem dJ6_bitCount_0f7a4_10 : decode cJ6_bitCount_0f7a4 10 = .ok (.iload_n 0, 1) := by decide +kernel
theorem dJ6_bitCount_0f7a4_11 : decode cJ6_bitCount_0f7a4 11 = .ok (.ldc_w 266, 3) := by decide +kernel
theorem dJ6_bitCount_0f7a4_14 : decode cJ6_bitCount_0f7a4 14 = .ok (.iand, 1) := by decide +kernel
theorem dJ6_bitCount_0f7a4_15 : decode cJ6_bitCount_0f7a4 15 = .ok (.iload_n 0, 1) := by decide +kernel
theorem dJ6_bitCount_0f7a4_16 : decode cJ6_bitCount_0f7a4 16 = .ok (.iconst 2, 1) := by decide +kernel
theorem dJ6_bitCount_0f7a4_17 : decode cJ6_bitCount_0f7a4 17 = .ok (.iushr, 1) := by decide +kernel
theorem dJ6_bitCount_0f7a4_18 : decode cJ6_bitCount_0f7a4 18 = .ok (.ldc_w 266, 3) := by decide +kernel
theorem dJ6_bitCount_0f7a4_21 : decode cJ6_bitCount_0f7a4 21 = .ok (.iand, 1) := by decide +kernel
theorem dJ6_bitCount_0f7a4_22 : decode cJ6_bitCount_0f7a4 22 = .ok (.iadd, 1) := by decide +kernel
theorem dJ6_bitCount_0f7a4_23 : decode cJ6_bitCount_0f7a4 23 = .ok (.istore_n 0, 1) := by decide +kernel
theorem dJ6_bitCount_0f7a4_24 : decode cJ6_bitCount_0f7a4 24 = .ok (.iload_n 0, 1) := by decide +kernel
theorem dJ6_bitCount_0f7a4_25 : decode cJ6_bitCount_0f7a4 25 = .ok (.iload_n 0, 1) := by decide +kernel
theorem dJ6_bitCount_0f7a4_26 : decode cJ6_bitCount_0f7a4 26 = .ok (.iconst 4, 1) := by decide +kernel
theorem dJ6_bitCount_0f7a4_27 : decode cJ6_bitCount_0f7a4 27 = .ok (.iushr, 1) := by decide +kernel
theorem dJ6_bitCount_0f7a4_28 : decode cJ6_bitCount_0f7a4 28 = .ok (.iadd, 1) := by decide +kernel
theorem dJ6_bitCount_0f7a4_29 : decode cJ6_bitCount_0f7a4 29 = .ok (.ldc_w 267, 3) := by decide +kernel
theorem dJ6_bitCount_0f7a4_32 : decode cJ6_bitCount_0f7a4 32 = .ok (.iand, 1) := by decide +kernel
theorem dJ6_bitCount_0f7a4_33 : decode cJ6_bitCount_0f7a4 33 = .ok (.istore_n 0, 1) := by decide +kernel
theorem dJ6_bitCount_0f7a4_34 : decode cJ6_bitCount_0f7a4 34 = .ok (.iload_n 0, 1) := by decide +kernel
theorem dJ6_bitCount_0f7a4_35 : decode cJ6_bitCount_0f7a4 35 = .ok (.iload_n 0, 1) := by decide +kernel
theorem dJ6_bitCount_0f7a4_36 : decode cJ6_bitCount_0f7a4 36 = .ok (.bipush 8, 2) := by decide +kernel
theorem dJ6_bitCount_0f7a4_38 : decode cJ6_bitCount_0f7a4 38 = .ok (.iushr, 1) := by decide +kernel
theorem dJ6_bitCount_0f7a4_39 : decode cJ6_bitCount_0f7a4 39 = .ok (.iadd, 1) := by decide +kernel
theorem dJ6_bitCount_0f7a4_40 : decode cJ6_bitCount_0f7a4 40 = .ok (.istore_n 0, 1) := by decide +kernel
theorem dJ6_bitCount_0f7a4_41 : decode cJ6_bitCount_0f7a4 41 = .ok (.iload_n 0, 1) := by decide +kernel
theorem dJ6_bitCount_0f7a4_42 : decode cJ6_bitCount_0f7a4 42 = .ok (.iload_n 0, 1) := by decide +kernel
theorem dJ6_bitCount_0f7a4_43 : decode cJ6_bitCount_0f7a4 43 = .ok (.bipush 16, 2) := by decide +kernel
theorem dJ6_bitCount_0f7a4_45 : decode cJ6_bitCount_0f7a4 45 = .ok (.iushr, 1) := by decide +kernel
theorem dJ6_bitCount_0f7a4_46 : decode cJ6_bitCount_0f7a4 46 = .ok (.iadd, 1) := by decide +kernel
theorem dJ6_bitCount_0f7a4_47 : decode cJ6_bitCount_0f7a4 47 = .ok (.istore_n 0, 1) := by decide +kernel
theorem dJ6_bitCount_0f7a4_48 : decode cJ6_bitCount_0f7a4 48 = .ok (.iload_n 0, 1) := by decide +kernel
theorem dJ6_bitCount_0f7a4_49 : decode cJ6_bitCount_0f7a4 49 = .ok (.bipush 63, 2) := by decide +kernel
theorem dJ6_bitCount_0f7a4_51 : decode cJ6_bitCount_0f7a4 51 = .ok (.iand, 1) := by decide +kernel
theorem dJ6_bitCount_0f7a4_52 : decode cJ6_bitCount_0f7a4 52 = .ok (.ireturn, 1) := by decide +kernel
theorem dJ9_max_7cf53_0 : decode cJ9_max_7cf53 0 = .ok (.iload_n 0, 1) := by decide +kernel
theorem dJ9_max_7cf53_1 : decode cJ9_max_7cf53 1 = .ok (.iload_n 1, 1) := by decide +kernel
theorem dJ9_max_7cf53_2 : decode cJ9_max_7cf53 2 = .ok (.if_icmp .lt 7, 3) := by decide +kernel
theorem dJ9_max_7cf53_5 : decode cJ9_max_7cf53 5 = .ok (.iload_n 0, 1) := by decide +kernel
theorem dJ9_max_7cf53_6 : decode cJ9_max_7cf53 6 = .ok (.goto 4, 3) := by decide +kernel
theorem dJ9_max_7cf53_9 : decode cJ9_max_7cf53 9 = .ok (.iload_n 1, 1) := by decide +kernel
theorem dJ9_max_7cf53_10 : decode cJ9_max_7cf53 10 = .ok (.ireturn, 1) := by decide +kernel
theorem dJ9_min_7cf53_0 : decode cJ9_min_7cf53 0 = .ok (.iload_n 0, 1) := by decide +kernel
theorem dJ9_min_7cf53_1 : decode cJ9_min_7cf53 1 = .ok (.iload_n 1, 1) := by decide +kernel
theorem dJ9_min_7cf53_2 : decode cJ9_min_7cf53 2 = .ok (.if_icmp .gt 7, 3) := by decide +kernel
theorem dJ9_min_7cf53_5 : decode cJ9_min_7cf53 5 = .ok (.iload_n 0, 1) := by decide +kernel
theorem dJ9_min_7cf53_6 : decode cJ9_min_7cf53 6 = .ok (.goto 4, 3) := by decide +kernel
theorem dJ9_min_7cf53_9 : decode cJ9_min_7cf53 9 = .ok (.iload_n 1, 1) := by decide +kernel
theorem dJ9_min_7cf53_10 : decode cJ9_min_7cf53 10 = .ok (.ireturn, 1) := by decide +kernel
set_option maxRecDepth 20000 in
theorem ggL_law_X4_init : GoodIn wsL_law wsX4_init := goodIn_r _ [8, 9, 10, 11, 12, 13, 14, 15, 16, 17, 18, 19, 20, 21, 22, 23, 24, 25, 26, 27, 28, 29, 30, 31, 32, 33, 34, 35, 36, 37, 38, 39, 40, 41, 42, 43, 44, 45, 735, 736, 737, 738, 739, 740, 741, 702, 703, 704, 705, 706, 707, 708, 709, 710, 742, 743, 744, 745, 746] (by decide +kernel) (by decide +kernel)
set_option maxRecDepth 20000 in
theorem gL_law_X4_init : GoodIn wsL_law (wsX4_init) := ggL_law_X4_init
set_option maxRecDepth 20000 in
theorem ggL_law_X5_init : GoodIn wsL_law wsX5_init := goodIn_r _ [48, 49, 10, 11, 26, 50, 51, 52, 53, 54, 55, 56, 57, 58, 59, 60, 61, 62, 63, 64, 711, 712, 713, 714, 715, 716, 717, 718, 719, 720, 721, 722, 723, 724, 725, 726, 727, 728, 729, 730, 731, 732, 733, 734] (by decide +kernel) (by decide +kernel)
set_option maxRecDepth 20000 in
theorem gL_law_X5_init : GoodIn wsL_law (wsX5_init) := ggL_law_X5_init
set_option maxRecDepth 20000 in
theorem ggL_law_X4_letter : GoodIn wsL_law wsX4_letter := goodIn_r _ [68, 21, 69, 70, 71, 2, 72, 28, 73, 74, 75, 20, 76, 77, 78, 79, 80, 81, 40, 702, 703, 704, 705, 706, 707, 708, 709, 710, 742, 743] (by decide +kernel) (by decide +kernel)
set_option maxRecDepth 20000 in
theorem gL_law_X4_letter : GoodIn wsL_law (wsV RL 13 RX4 yX4_letter wsX4_letter) := goodIn_app (goodIn_of _ (by decide +kernel)) ggL_law_X4_letter
set_option maxRecDepth 20000 in
theorem ggL_law_X5_letter : GoodIn wsL_law wsX5_letter := goodIn_r _ [85, 86, 56, 87, 88, 5, 89, 90, 91, 92, 93, 50, 711, 712, 713, 714, 715, 716, 717, 718, 719, 720, 721, 722, 723, 724, 725, 726, 727, 728, 729, 730, 731, 732, 733, 734] (by decide +kernel) (by decide +kernel)
set_option maxRecDepth 20000 in
theorem gL_law_X5_letter : GoodIn wsL_law (wsV RL 17 RX5 yX5_letter wsX5_letter) := goodIn_app (goodIn_of _ (by decide +kernel)) ggL_law_X5_letter
set_option maxRecDepth 20000 in
theorem ggL_law_X4_house : GoodIn wsL_law wsX4_house := goodIn_r _ [97, 21, 98, 99, 100, 2, 101, 16, 15, 102, 103, 104, 20, 105, 77, 106, 107, 108, 109, 40, 110, 111, 112, 113, 114, 115, 116, 117, 118, 119, 120, 121, 122, 123, 124, 125, 126, 127, 128, 129, 130, 131, 14, 132, 32, 33, 34, 35, 36, 133, 134, 135, 136, 137, 138, 139, 140, 141, 142, 143, 144, 145, 146, 147, 148, 149, 150, 151, 152, 153, 154, 155, 156, 157, 158, 159, 160, 161, 162, 163, 164, 165, 166, 167, 168, 169, 170, 171, 172, 173, 174, 175, 176, 177, 178, 179, 180, 181, 182, 183, 184, 185, 186, 187, 188, 189, 190, 191, 192, 193, 194, 195, 196, 197, 198, 199, 200, 201, 202, 203, 204, 205, 206, 207, 208, 209, 210, 211, 212, 213, 214, 215, 216, 217, 218, 219, 220, 221, 222, 223, 224, 225, 226, 227, 228, 229, 230, 702, 703, 704, 705, 706, 707, 708, 709, 710, 742, 743, 735, 736, 737, 738, 739, 740, 741] (by decide +kernel) (by decide +kernel)
set_option maxRecDepth 20000 in
theorem gL_law_X4_house : GoodIn wsL_law (wsV RL 18 RX4 yX4_house wsX4_house) := goodIn_app (goodIn_of _ (by decide +kernel)) ggL_law_X4_house
set_option maxRecDepth 20000 in
theorem ggL_law_X5_house : GoodIn wsL_law wsX5_house := goodIn_r _ [234, 235, 236, 86, 58, 237, 238, 239, 5, 240, 57, 241, 242, 243, 244, 56, 245, 246, 247, 248, 59, 249, 250, 251, 252, 253, 254, 255, 256, 257, 258, 259, 260, 261, 262, 263, 264, 265, 266, 60, 61, 267, 268, 269, 270, 271, 272, 51, 52, 53, 54, 55, 273, 274, 275, 276, 277, 278, 62, 279, 280, 281, 282, 283, 284, 285, 286, 287, 288, 289, 290, 291, 292, 293, 294, 295, 296, 297, 298, 299, 300, 301, 302, 303, 304, 305, 306, 307, 308, 309, 63, 310, 311, 312, 313, 314, 315, 316, 711, 712, 713, 714, 715, 716, 717, 718, 719, 720, 721, 722, 723, 724, 725, 726, 727, 728, 729, 730, 731, 732, 733, 734] (by decide +kernel) (by decide +kernel)
set_option maxRecDepth 20000 in
theorem gL_law_X5_house : GoodIn wsL_law (wsV RL 22 RX5 yX5_house wsX5_house) := goodIn_app (goodIn_of _ (by decide +kernel)) ggL_law_X5_house
set_option maxRecDepth 20000 in
theorem ggL_law_X4_enter : GoodIn wsL_law wsX4_enter := goodIn_r _ [320, 15, 321, 322, 2, 323, 69, 70, 71, 72, 28, 324, 152, 153, 14, 154, 133, 325, 148, 149, 150, 151, 155, 156, 118, 157, 158, 159, 160, 161, 162, 163, 164, 165, 34, 166, 167, 168, 169, 326, 171, 172, 173, 32, 33, 35, 36, 702, 703, 704, 705, 706, 707, 708, 709, 710, 735, 736, 737, 738, 739, 740, 741] (by decide +kernel) (by decide +kernel)
set_option maxRecDepth 20000 in
theorem gL_law_X4_enter : GoodIn wsL_law (wsV RL 23 RX4 yX4_enter wsX4_enter) := goodIn_app (goodIn_of _ (by decide +kernel)) ggL_law_X4_enter
set_option maxRecDepth 20000 in
theorem ggL_law_X5_enter : GoodIn wsL_law wsX5_enter := goodIn_r _ [330, 273, 260, 261, 5, 262, 291, 292, 293, 294, 295, 296, 297, 53, 90, 91, 92, 93, 50, 287, 288, 289, 290, 51, 52, 54, 55, 711, 712, 713, 714, 715, 716, 717, 718, 719, 720, 721, 722, 723, 724, 725, 726, 727, 728, 729, 730, 731, 732, 733, 734] (by decide +kernel) (by decide +kernel)
set_option maxRecDepth 20000 in
theorem gL_law_X5_enter : GoodIn wsL_law (wsV RL 27 RX5 yX5_enter wsX5_enter) := goodIn_app (goodIn_of _ (by decide +kernel)) ggL_law_X5_enter
set_option maxRecDepth 20000 in
theorem ggL_law_X4_lodger : GoodIn wsL_law wsX4_lodger := goodIn_r _ [334, 15, 335, 336, 337, 338, 339, 167, 168, 14, 169, 133, 34, 69, 70, 71, 2, 72, 28, 340, 341, 342, 343, 32, 216, 217, 218, 219, 33, 220, 221, 160, 222, 344, 345, 118, 346, 158, 159, 161, 347, 348, 349, 350, 351, 352, 353, 354, 355, 356, 357, 358, 359, 360, 361, 362, 363, 364, 36, 702, 703, 704, 705, 706, 707, 708, 709, 710, 735, 736, 737, 738, 739, 740, 741] (by decide +kernel) (by decide +kernel)
set_option maxRecDepth 20000 in
theorem gL_law_X4_lodger : GoodIn wsL_law (wsV RL 28 RX4 yX4_lodger wsX4_lodger) := goodIn_app (goodIn_of _ (by decide +kernel)) ggL_law_X4_lodger
set_option maxRecDepth 20000 in
theorem ggL_law_X5_lodger : GoodIn wsL_law wsX5_lodger := goodIn_r _ [368, 51, 52, 53, 54, 55, 302, 303, 304, 5, 305, 273, 90, 91, 92, 93, 50, 369, 370, 371, 372, 314, 315, 316, 373, 374, 375, 711, 712, 713, 714, 715, 716, 717, 718, 719, 720, 721, 722, 723, 724, 725, 726, 727, 728, 729, 730, 731, 732, 733, 734] (by decide +kernel) (by decide +kernel)
set_option maxRecDepth 20000 in
theorem gL_law_X5_lodger : GoodIn wsL_law (wsV RL 32 RX5 yX5_lodger wsX5_lodger) := goodIn_app (goodIn_of _ (by decide +kernel)) ggL_law_X5_lodger
set_option maxRecDepth 20000 in
theorem ggL_law_X4_wish : GoodIn wsL_law wsX4_wish := goodIn_r _ [379, 15, 380, 339, 167, 168, 14, 169, 133, 34, 69, 70, 71, 2, 72, 28, 381, 382, 383, 361, 362, 363, 364, 36, 702, 703, 704, 705, 706, 707, 708, 709, 710, 735, 736, 737, 738, 739, 740, 741] (by decide +kernel) (by decide +kernel)
set_option maxRecDepth 20000 in
theorem gL_law_X4_wish : GoodIn wsL_law (wsV RL 33 RX4 yX4_wish wsX4_wish) := goodIn_app (goodIn_of _ (by decide +kernel)) ggL_law_X4_wish
set_option maxRecDepth 20000 in
theorem ggL_law_X5_wish : GoodIn wsL_law wsX5_wish := goodIn_r _ [387, 55, 302, 303, 304, 5, 305, 273, 53, 388, 389, 390, 90, 91, 92, 93, 50, 711, 712, 713, 714, 715, 716, 717, 718, 719, 720, 721, 722, 723, 724, 725, 726, 727, 728, 729, 730, 731, 732, 733, 734] (by decide +kernel) (by decide +kernel)
set_option maxRecDepth 20000 in
theorem gL_law_X5_wish : GoodIn wsL_law (wsV RL 36 RX5 yX5_wish wsX5_wish) := goodIn_app (goodIn_of _ (by decide +kernel)) ggL_law_X5_wish
set_option maxRecDepth 20000 in
theorem ggL_law_X4_year : GoodIn wsL_law wsX4_year := goodIn_r _ [394, 15, 395, 396, 397, 398, 14, 399, 197, 198, 199, 200, 166, 167, 168, 169, 133, 34, 69, 70, 71, 2, 72, 28, 400, 189, 190, 191, 33, 134, 192, 193, 194, 195, 196, 186, 187, 201, 202, 203, 204, 205, 206, 207, 208, 32, 209, 210, 211, 212, 213, 214, 215, 216, 217, 218, 219, 220, 221, 160, 222, 702, 703, 704, 705, 706, 707, 708, 709, 710, 735, 736, 737, 738, 739, 740, 741] (by decide +kernel) (by decide +kernel)
set_option maxRecDepth 20000 in
theorem gL_law_X4_year : GoodIn wsL_law (wsV RL 37 RX4 yX4_year wsX4_year) := goodIn_app (goodIn_of _ (by decide +kernel)) ggL_law_X4_year
set_option maxRecDepth 20000 in
theorem ggL_law_X5_year : GoodIn wsL_law wsX5_year := goodIn_r _ [404, 274, 405, 406, 407, 5, 408, 409, 410, 411, 412, 273, 53, 90, 91, 92, 93, 50, 306, 307, 308, 309, 63, 52, 310, 311, 312, 313, 51, 314, 315, 316, 711, 712, 713, 714, 715, 716, 717, 718, 719, 720, 721, 722, 723, 724, 725, 726, 727, 728, 729, 730, 731, 732, 733, 734] (by decide +kernel) (by decide +kernel)
set_option maxRecDepth 20000 in
theorem gL_law_X5_year : GoodIn wsL_law (wsV RL 40 RX5 yX5_year wsX5_year) := goodIn_app (goodIn_of _ (by decide +kernel)) ggL_law_X5_year
set_option maxRecDepth 20000 in
theorem ggL_law_X4_on : GoodIn wsL_law wsX4_on := goodIn_r _ [416, 15, 381, 382, 2, 383, 69, 70, 71, 72, 28, 417, 163, 164, 14, 165, 34, 166, 167, 168, 169, 133, 702, 703, 704, 705, 706, 707, 708, 709, 710, 735, 736, 737, 738, 739, 740, 741] (by decide +kernel) (by decide +kernel)
set_option maxRecDepth 20000 in
theorem gL_law_X4_on : GoodIn wsL_law (wsV RL 41 RX4 yX4_on wsX4_on) := goodIn_app (goodIn_of _ (by decide +kernel)) ggL_law_X4_on
set_option maxRecDepth 20000 in
theorem ggL_law_X5_on : GoodIn wsL_law wsX5_on := goodIn_r _ [421, 388, 389, 5, 390, 294, 295, 296, 297, 273, 53, 90, 91, 92, 93, 50, 711, 712, 713, 714, 715, 716, 717, 718, 719, 720, 721, 722, 723, 724, 725, 726, 727, 728, 729, 730, 731, 732, 733, 734] (by decide +kernel) (by decide +kernel)
set_option maxRecDepth 20000 in
theorem gL_law_X5_on : GoodIn wsL_law (wsV RL 44 RX5 yX5_on wsX5_on) := goodIn_app (goodIn_of _ (by decide +kernel)) ggL_law_X5_on
set_option maxRecDepth 20000 in
theorem ggL_law_X4_likely : GoodIn wsL_law wsX4_likely := goodIn_r _ [425, 15, 25, 426, 427, 339, 167, 168, 14, 169, 133, 34, 381, 382, 2, 383, 428, 429, 430, 431, 432, 69, 70, 71, 72, 28, 433, 434, 435, 24, 436, 437, 438, 439, 440, 159, 160, 161, 441, 442, 443, 444, 445, 446, 45, 447, 448, 449, 450, 451, 341, 342, 343, 32, 216, 217, 218, 219, 33, 220, 221, 222, 344, 345, 118, 346, 158, 347, 348, 349, 350, 351, 352, 353, 452, 453, 454, 455, 456, 206, 207, 208, 457, 458, 459, 460, 461, 462, 463, 464, 702, 703, 704, 705, 706, 707, 708, 709, 710, 744, 745, 746, 735, 736, 737, 738, 739, 740, 741] (by decide +kernel) (by decide +kernel)
set_option maxRecDepth 20000 in
theorem gL_law_X4_likely : GoodIn wsL_law (wsV RL 45 RX4 yX4_likely wsX4_likely) := goodIn_app (goodIn_of _ (by decide +kernel)) ggL_law_X4_likely
set_option maxRecDepth 20000 in
theorem ggL_law_X5_likely : GoodIn wsL_law wsX5_likely := goodIn_r _ [468, 273, 469, 302, 303, 304, 5, 305, 53, 388, 389, 390, 470, 471, 472, 473, 50, 474, 87, 88, 89, 260, 261, 262, 475, 476, 477, 478, 405, 406, 407, 408, 409, 410, 411, 412, 479, 480, 481, 482, 369, 370, 371, 372, 52, 51, 314, 315, 316, 267, 268, 269, 270, 271, 272, 54, 55, 274, 275, 276, 277, 278, 62, 279, 280, 281, 282, 306, 307, 308, 309, 63, 310, 311, 312, 313, 483, 484, 485, 486, 487, 488, 489, 711, 712, 713, 714, 715, 716, 717, 718, 719, 720, 721, 722, 723, 724, 725, 726, 727, 728, 729, 730, 731, 732, 733, 734] (by decide +kernel) (by decide +kernel)
set_option maxRecDepth 20000 in
theorem gL_law_X5_likely : GoodIn wsL_law (wsV RL 49 RX5 yX5_likely wsX5_likely) := goodIn_app (goodIn_of _ (by decide +kernel)) ggL_law_X5_likely
set_option maxRecDepth 20000 in
theorem ggL_law_X4_mean : GoodIn wsL_law wsX4_mean := goodIn_r _ [493, 15, 339, 167, 168, 14, 169, 133, 34, 340, 341, 342, 343, 32, 216, 217, 218, 219, 33, 220, 221, 160, 222, 344, 345, 118, 346, 158, 159, 161, 347, 348, 349, 350, 351, 352, 353, 702, 703, 704, 705, 706, 707, 708, 709, 710, 735, 736, 737, 738, 739, 740, 741] (by decide +kernel) (by decide +kernel)
set_option maxRecDepth 20000 in
theorem gL_law_X4_mean : GoodIn wsL_law (wsV RL 50 RX4 yX4_mean wsX4_mean) := goodIn_app (goodIn_of _ (by decide +kernel)) ggL_law_X4_mean
set_option maxRecDepth 20000 in
theorem ggL_law_X5_mean : GoodIn wsL_law wsX5_mean := goodIn_r _ [497, 273, 53, 369, 370, 371, 5, 372, 52, 51, 314, 315, 316, 711, 712, 713, 714, 715, 716, 717, 718, 719, 720, 721, 722, 723, 724, 725, 726, 727, 728, 729, 730, 731, 732, 733, 734] (by decide +kernel) (by decide +kernel)
set_option maxRecDepth 20000 in
theorem gL_law_X5_mean : GoodIn wsL_law (wsV RL 53 RX5 yX5_mean wsX5_mean) := goodIn_app (goodIn_of _ (by decide +kernel)) ggL_law_X5_mean
set_option maxRecDepth 20000 in
theorem ggL_law_X4_deaths : GoodIn wsL_law wsX4_deaths := goodIn_r _ [501, 15, 337, 339, 167, 168, 14, 169, 133, 34, 381, 382, 2, 383, 69, 70, 71, 72, 28, 502, 206, 207, 208, 32, 503, 198, 199, 200, 166, 504, 193, 194, 195, 196, 186, 187, 505, 202, 203, 204, 205, 209, 210, 211, 212, 213, 214, 215, 506, 507, 508, 509, 510, 341, 342, 343, 216, 217, 218, 219, 33, 220, 221, 160, 222, 344, 345, 118, 346, 158, 159, 161, 347, 348, 349, 350, 351, 352, 353, 702, 703, 704, 705, 706, 707, 708, 709, 710, 735, 736, 737, 738, 739, 740, 741] (by decide +kernel) (by decide +kernel)
set_option maxRecDepth 20000 in
theorem gL_law_X4_deaths : GoodIn wsL_law (wsV RL 54 RX4 yX4_deaths wsX4_deaths) := goodIn_app (goodIn_of _ (by decide +kernel)) ggL_law_X4_deaths
set_option maxRecDepth 20000 in
theorem ggL_law_X5_deaths : GoodIn wsL_law wsX5_deaths := goodIn_r _ [514, 53, 51, 273, 302, 303, 304, 5, 305, 388, 389, 390, 90, 91, 92, 93, 50, 260, 261, 262, 369, 370, 371, 372, 52, 314, 315, 316, 711, 712, 713, 714, 715, 716, 717, 718, 719, 720, 721, 722, 723, 724, 725, 726, 727, 728, 729, 730, 731, 732, 733, 734] (by decide +kernel) (by decide +kernel)
set_option maxRecDepth 20000 in
theorem gL_law_X5_deaths : GoodIn wsL_law (wsV RL 57 RX5 yX5_deaths wsX5_deaths) := goodIn_app (goodIn_of _ (by decide +kernel)) ggL_law_X5_deaths
set_option maxRecDepth 20000 in
theorem ggL_law_X4_stuck : GoodIn wsL_law wsX4_stuck := goodIn_r _ [518, 15, 339, 167, 168, 14, 169, 133, 34, 519, 520, 521, 522, 523, 355, 356, 357, 32, 216, 217, 218, 219, 33, 220, 221, 160, 222, 358, 359, 118, 360, 353, 702, 703, 704, 705, 706, 707, 708, 709, 710, 735, 736, 737, 738, 739, 740, 741] (by decide +kernel) (by decide +kernel)
set_option maxRecDepth 20000 in
theorem gL_law_X4_stuck : GoodIn wsL_law (wsV RL 58 RX4 yX4_stuck wsX4_stuck) := goodIn_app (goodIn_of _ (by decide +kernel)) ggL_law_X4_stuck
set_option maxRecDepth 20000 in
theorem ggL_law_X5_stuck : GoodIn wsL_law wsX5_stuck := goodIn_r _ [527, 273, 53, 51, 52, 373, 374, 5, 375, 314, 315, 316, 711, 712, 713, 714, 715, 716, 717, 718, 719, 720, 721, 722, 723, 724, 725, 726, 727, 728, 729, 730, 731, 732, 733, 734] (by decide +kernel) (by decide +kernel)
set_option maxRecDepth 20000 in
theorem gL_law_X5_stuck : GoodIn wsL_law (wsV RL 61 RX5 yX5_stuck wsX5_stuck) := goodIn_app (goodIn_of _ (by decide +kernel)) ggL_law_X5_stuck
set_option maxRecDepth 20000 in
theorem ggL_law_X4_safe : GoodIn wsL_law wsX4_safe := goodIn_r _ [531, 15, 339, 167, 168, 14, 169, 133, 34, 69, 70, 71, 2, 72, 28, 519, 520, 521, 522, 523, 355, 356, 357, 32, 216, 217, 218, 219, 33, 220, 221, 160, 222, 358, 359, 118, 360, 353, 702, 703, 704, 705, 706, 707, 708, 709, 710, 735, 736, 737, 738, 739, 740, 741] (by decide +kernel) (by decide +kernel)
set_option maxRecDepth 20000 in
theorem gL_law_X4_safe : GoodIn wsL_law (wsV RL 62 RX4 yX4_safe wsX4_safe) := goodIn_app (goodIn_of _ (by decide +kernel)) ggL_law_X4_safe
set_option maxRecDepth 20000 in
theorem ggL_law_X5_safe : GoodIn wsL_law wsX5_safe := goodIn_r _ [535, 51, 52, 53, 302, 303, 304, 5, 305, 273, 90, 91, 92, 93, 50, 314, 315, 316, 373, 374, 375, 711, 712, 713, 714, 715, 716, 717, 718, 719, 720, 721, 722, 723, 724, 725, 726, 727, 728, 729, 730, 731, 732, 733, 734] (by decide +kernel) (by decide +kernel)
set_option maxRecDepth 20000 in
theorem gL_law_X5_safe : GoodIn wsL_law (wsV RL 65 RX5 yX5_safe wsX5_safe) := goodIn_app (goodIn_of _ (by decide +kernel)) ggL_law_X5_safe
set_option maxRecDepth 20000 in
theorem ggL_law_X4_carried : GoodIn wsL_law wsX4_carried := goodIn_r _ [539, 15, 396, 397, 398, 14, 399, 197, 198, 199, 200, 166, 167, 168, 169, 133, 34, 69, 70, 71, 2, 72, 28, 540, 541, 542, 543, 35, 192, 193, 194, 195, 196, 186, 187, 201, 202, 203, 204, 205, 206, 207, 208, 32, 209, 210, 211, 212, 213, 214, 215, 702, 703, 704, 705, 706, 707, 708, 709, 710, 735, 736, 737, 738, 739, 740, 741] (by decide +kernel) (by decide +kernel)
set_option maxRecDepth 20000 in
theorem gL_law_X4_carried : GoodIn wsL_law (wsV RL 66 RX4 yX4_carried wsX4_carried) := goodIn_app (goodIn_of _ (by decide +kernel)) ggL_law_X4_carried
set_option maxRecDepth 20000 in
theorem ggL_law_X5_carried : GoodIn wsL_law wsX5_carried := goodIn_r _ [547, 405, 406, 407, 5, 408, 409, 410, 411, 412, 273, 53, 548, 549, 550, 551, 54, 310, 311, 312, 313, 51, 90, 91, 92, 93, 50, 711, 712, 713, 714, 715, 716, 717, 718, 719, 720, 721, 722, 723, 724, 725, 726, 727, 728, 729, 730, 731, 732, 733, 734] (by decide +kernel) (by decide +kernel)
set_option maxRecDepth 20000 in
theorem gL_law_X5_carried : GoodIn wsL_law (wsV RL 69 RX5 yX5_carried wsX5_carried) := goodIn_app (goodIn_of _ (by decide +kernel)) ggL_law_X5_carried
set_option maxRecDepth 20000 in
theorem ggL_law_X4_leastCarried : GoodIn wsL_law wsX4_leastCarried := goodIn_r _ [555, 15, 339, 167, 168, 14, 169, 133, 34, 540, 541, 542, 543, 35, 192, 193, 194, 195, 196, 186, 187, 166, 201, 202, 203, 204, 205, 206, 207, 208, 32, 209, 210, 211, 212, 213, 214, 215, 702, 703, 704, 705, 706, 707, 708, 709, 710, 735, 736, 737, 738, 739, 740, 741] (by decide +kernel) (by decide +kernel)
set_option maxRecDepth 20000 in
theorem gL_law_X4_leastCarried : GoodIn wsL_law (wsV RL 70 RX4 yX4_leastCarried wsX4_leastCarried) := goodIn_app (goodIn_of _ (by decide +kernel)) ggL_law_X4_leastCarried
set_option maxRecDepth 20000 in
theorem ggL_law_X5_leastCarried : GoodIn wsL_law wsX5_leastCarried := goodIn_r _ [559, 273, 53, 548, 549, 550, 5, 551, 54, 310, 311, 312, 313, 51, 711, 712, 713, 714, 715, 716, 717, 718, 719, 720, 721, 722, 723, 724, 725, 726, 727, 728, 729, 730, 731, 732, 733, 734] (by decide +kernel) (by decide +kernel)
set_option maxRecDepth 20000 in
theorem gL_law_X5_leastCarried : GoodIn wsL_law (wsV RL 73 RX5 yX5_leastCarried wsX5_leastCarried) := goodIn_app (goodIn_of _ (by decide +kernel)) ggL_law_X5_leastCarried
set_option maxRecDepth 20000 in
theorem ggL_law_X4_rings : GoodIn wsL_law wsX4_rings := goodIn_r _ [563, 15, 564, 565, 566, 14, 567, 166, 167, 168, 169, 133, 34, 568, 569, 570, 571, 36, 162, 163, 164, 165, 702, 703, 704, 705, 706, 707, 708, 709, 710, 735, 736, 737, 738, 739, 740, 741] (by decide +kernel) (by decide +kernel)
set_option maxRecDepth 20000 in
theorem gL_law_X4_rings : GoodIn wsL_law (wsV RL 74 RX4 yX4_rings wsX4_rings) := goodIn_app (goodIn_of _ (by decide +kernel)) ggL_law_X4_rings
set_option maxRecDepth 20000 in
theorem ggL_law_X5_rings : GoodIn wsL_law wsX5_rings := goodIn_r _ [575, 576, 577, 578, 5, 579, 273, 53, 55, 294, 295, 296, 297, 711, 712, 713, 714, 715, 716, 717, 718, 719, 720, 721, 722, 723, 724, 725, 726, 727, 728, 729, 730, 731, 732, 733, 734] (by decide +kernel) (by decide +kernel)
set_option maxRecDepth 20000 in
theorem gL_law_X5_rings : GoodIn wsL_law (wsV RL 77 RX5 yX5_rings wsX5_rings) := goodIn_app (goodIn_of _ (by decide +kernel)) ggL_law_X5_rings
set_option maxRecDepth 20000 in
theorem ggL_law_X4_changing : GoodIn wsL_law wsX4_changing := goodIn_r _ [583, 15, 584, 585, 586, 14, 587, 34, 36, 588, 565, 566, 567, 166, 167, 168, 169, 133, 568, 569, 570, 571, 162, 163, 164, 165, 196, 186, 187, 702, 703, 704, 705, 706, 707, 708, 709, 710, 735, 736, 737, 738, 739, 740, 741] (by decide +kernel) (by decide +kernel)
set_option maxRecDepth 20000 in
theorem gL_law_X4_changing : GoodIn wsL_law (wsV RL 78 RX4 yX4_changing wsX4_changing) := goodIn_app (goodIn_of _ (by decide +kernel)) ggL_law_X4_changing
set_option maxRecDepth 20000 in
theorem ggL_law_X5_changing : GoodIn wsL_law wsX5_changing := goodIn_r _ [592, 273, 53, 55, 576, 577, 578, 5, 579, 294, 295, 296, 297, 711, 712, 713, 714, 715, 716, 717, 718, 719, 720, 721, 722, 723, 724, 725, 726, 727, 728, 729, 730, 731, 732, 733, 734] (by decide +kernel) (by decide +kernel)
set_option maxRecDepth 20000 in
theorem gL_law_X5_changing : GoodIn wsL_law (wsV RL 81 RX5 yX5_changing wsX5_changing) := goodIn_app (goodIn_of _ (by decide +kernel)) ggL_law_X5_changing
set_option maxRecDepth 20000 in
theorem ggL_law_X4_free : GoodIn wsL_law wsX4_free := goodIn_r _ [596, 15, 503, 198, 199, 14, 200, 166, 167, 168, 169, 133, 34, 504, 193, 194, 195, 196, 186, 187, 702, 703, 704, 705, 706, 707, 708, 709, 710, 735, 736, 737, 738, 739, 740, 741] (by decide +kernel) (by decide +kernel)
set_option maxRecDepth 20000 in
theorem gL_law_X4_free : GoodIn wsL_law (wsV RL 82 RX4 yX4_free wsX4_free) := goodIn_app (goodIn_of _ (by decide +kernel)) ggL_law_X4_free
set_option maxRecDepth 20000 in
theorem ggL_law_X5_free : GoodIn wsL_law wsX5_free := goodIn_r _ [600, 294, 295, 296, 5, 297, 273, 53, 711, 712, 713, 714, 715, 716, 717, 718, 719, 720, 721, 722, 723, 724, 725, 726, 727, 728, 729, 730, 731, 732, 733, 734] (by decide +kernel) (by decide +kernel)
set_option maxRecDepth 20000 in
theorem gL_law_X5_free : GoodIn wsL_law (wsV RL 85 RX5 yX5_free wsX5_free) := goodIn_app (goodIn_of _ (by decide +kernel)) ggL_law_X5_free
set_option maxRecDepth 20000 in
theorem ggL_law_X4_ages : GoodIn wsL_law wsX4_ages := goodIn_r _ [604, 15, 321, 322, 2, 323, 69, 70, 71, 72, 28, 325, 148, 149, 14, 150, 151, 152, 153, 154, 133, 155, 156, 118, 157, 158, 159, 160, 161, 162, 163, 164, 165, 34, 166, 167, 168, 169, 702, 703, 704, 705, 706, 707, 708, 709, 710, 735, 736, 737, 738, 739, 740, 741] (by decide +kernel) (by decide +kernel)
set_option maxRecDepth 20000 in
theorem gL_law_X4_ages : GoodIn wsL_law (wsV RL 86 RX4 yX4_ages wsX4_ages) := goodIn_app (goodIn_of _ (by decide +kernel)) ggL_law_X4_ages
set_option maxRecDepth 20000 in
theorem ggL_law_X5_ages : GoodIn wsL_law wsX5_ages := goodIn_r _ [608, 260, 261, 5, 262, 90, 91, 92, 93, 50, 291, 292, 293, 294, 295, 296, 297, 273, 53, 711, 712, 713, 714, 715, 716, 717, 718, 719, 720, 721, 722, 723, 724, 725, 726, 727, 728, 729, 730, 731, 732, 733, 734] (by decide +kernel) (by decide +kernel)
set_option maxRecDepth 20000 in
theorem gL_law_X5_ages : GoodIn wsL_law (wsV RL 89 RX5 yX5_ages wsX5_ages) := goodIn_app (goodIn_of _ (by decide +kernel)) ggL_law_X5_ages
set_option maxRecDepth 20000 in
theorem ggL_law_X4_row : GoodIn wsL_law wsX4_row := goodIn_r _ [612, 613, 27, 69, 70, 71, 2, 72, 28, 702, 703, 704, 705, 706, 707, 708, 709, 710] (by decide +kernel) (by decide +kernel)
set_option maxRecDepth 20000 in
theorem gL_law_X4_row : GoodIn wsL_law (wsV RL 90 RX4 yX4_row wsX4_row) := goodIn_app (goodIn_of _ (by decide +kernel)) ggL_law_X4_row
set_option maxRecDepth 20000 in
theorem ggL_law_X5_row : GoodIn wsL_law wsX5_row := goodIn_r _ [617, 618, 64, 87, 88, 5, 89, 90, 91, 92, 93, 50, 711, 712, 713, 714, 715, 716, 717, 718, 719, 720, 721, 722, 723, 724, 725, 726, 727, 728, 729, 730, 731, 732, 733, 734] (by decide +kernel) (by decide +kernel)
set_option maxRecDepth 20000 in
theorem gL_law_X5_row : GoodIn wsL_law (wsV RL 93 RX5 yX5_row wsX5_row) := goodIn_app (goodIn_of _ (by decide +kernel)) ggL_law_X5_row
set_option maxRecDepth 20000 in
theorem ggL_law_X4_fitting : GoodIn wsL_law wsX4_fitting := goodIn_r _ [622, 613, 15, 69, 70, 71, 2, 72, 28, 503, 198, 199, 14, 200, 166, 167, 168, 169, 133, 34, 623, 210, 211, 212, 213, 214, 215, 396, 397, 398, 399, 197, 624, 625, 626, 627, 337, 27, 504, 193, 194, 195, 196, 186, 187, 339, 628, 505, 202, 203, 204, 205, 206, 207, 208, 32, 209, 702, 703, 704, 705, 706, 707, 708, 709, 710, 735, 736, 737, 738, 739, 740, 741] (by decide +kernel) (by decide +kernel)
set_option maxRecDepth 20000 in
theorem gL_law_X4_fitting : GoodIn wsL_law (wsV RL 94 RX4 yX4_fitting wsX4_fitting) := goodIn_app (goodIn_of _ (by decide +kernel)) ggL_law_X4_fitting
set_option maxRecDepth 20000 in
theorem ggL_law_X5_fitting : GoodIn wsL_law wsX5_fitting := goodIn_r _ [632, 618, 273, 260, 261, 5, 262, 90, 91, 92, 93, 50, 409, 410, 411, 412, 53, 633, 634, 635, 405, 406, 407, 408, 636, 637, 638, 639, 64, 310, 311, 312, 313, 51, 711, 712, 713, 714, 715, 716, 717, 718, 719, 720, 721, 722, 723, 724, 725, 726, 727, 728, 729, 730, 731, 732, 733, 734] (by decide +kernel) (by decide +kernel)
set_option maxRecDepth 20000 in
theorem gL_law_X5_fitting : GoodIn wsL_law (wsV RL 97 RX5 yX5_fitting wsX5_fitting) := goodIn_app (goodIn_of _ (by decide +kernel)) ggL_law_X5_fitting
set_option maxRecDepth 20000 in
theorem ggL_law_X4_judge : GoodIn wsL_law wsX4_judge := goodIn_r _ [643, 613, 644, 645, 646, 2, 647, 15, 27, 337, 339, 167, 168, 14, 169, 133, 34, 702, 703, 704, 705, 706, 707, 708, 709, 710, 735, 736, 737, 738, 739, 740, 741] (by decide +kernel) (by decide +kernel)
set_option maxRecDepth 20000 in
theorem gL_law_X4_judge : GoodIn wsL_law (wsV RL 98 RX4 yX4_judge wsX4_judge) := goodIn_app (goodIn_of _ (by decide +kernel)) ggL_law_X4_judge
set_option maxRecDepth 20000 in
theorem ggL_law_X5_judge : GoodIn wsL_law wsX5_judge := goodIn_r _ [651, 618, 273, 53, 64, 711, 712, 713, 714, 715, 716, 717, 718, 719, 720, 721, 722, 723, 724, 725, 726, 727, 728, 729, 730, 731, 732, 733, 734] (by decide +kernel) (by decide +kernel)
set_option maxRecDepth 20000 in
theorem gL_law_X5_judge : GoodIn wsL_law (wsV RL 101 RX5 yX5_judge wsX5_judge) := goodIn_app (goodIn_of _ (by decide +kernel)) ggL_law_X5_judge
set_option maxRecDepth 20000 in
theorem ggL_law_X4_lots : GoodIn wsL_law wsX4_lots := goodIn_r _ [655, 15, 69, 70, 71, 2, 72, 28, 656, 657, 658, 14, 659, 660, 661, 662, 197, 198, 199, 200, 166, 167, 168, 169, 133, 34, 196, 186, 187, 510, 341, 342, 343, 32, 216, 217, 218, 219, 33, 220, 221, 160, 222, 344, 345, 118, 346, 158, 159, 161, 347, 348, 349, 350, 351, 352, 353, 702, 703, 704, 705, 706, 707, 708, 709, 710, 735, 736, 737, 738, 739, 740, 741] (by decide +kernel) (by decide +kernel)
set_option maxRecDepth 20000 in
theorem gL_law_X4_lots : GoodIn wsL_law (wsV RL 102 RX4 yX4_lots wsX4_lots) := goodIn_app (goodIn_of _ (by decide +kernel)) ggL_law_X4_lots
set_option maxRecDepth 20000 in
theorem ggL_law_X5_lots : GoodIn wsL_law wsX5_lots := goodIn_r _ [666, 273, 53, 667, 668, 669, 87, 88, 5, 89, 90, 91, 92, 93, 50, 267, 268, 269, 270, 271, 272, 51, 52, 54, 55, 274, 275, 276, 277, 278, 62, 279, 280, 281, 282, 369, 370, 371, 372, 314, 315, 316, 306, 307, 308, 309, 63, 310, 311, 312, 313, 409, 410, 411, 412, 711, 712, 713, 714, 715, 716, 717, 718, 719, 720, 721, 722, 723, 724, 725, 726, 727, 728, 729, 730, 731, 732, 733, 734] (by decide +kernel) (by decide +kernel)
set_option maxRecDepth 20000 in
theorem gL_law_X5_lots : GoodIn wsL_law (wsV RL 105 RX5 yX5_lots wsX5_lots) := goodIn_app (goodIn_of _ (by decide +kernel)) ggL_law_X5_lots
set_option maxRecDepth 20000 in
theorem ggL_law_X4_image : GoodIn wsL_law wsX4_image := goodIn_r _ [673, 17, 15, 674, 395, 129, 130, 131, 14, 132, 32, 33, 34, 35, 36, 133, 134, 702, 703, 704, 705, 706, 707, 708, 709, 710, 735, 736, 737, 738, 739, 740, 741] (by decide +kernel) (by decide +kernel)
set_option maxRecDepth 20000 in
theorem gL_law_X4_image : GoodIn wsL_law (wsV RL 106 RX4 yX4_image wsX4_image) := goodIn_app (goodIn_of _ (by decide +kernel)) ggL_law_X4_image
set_option maxRecDepth 20000 in
theorem ggL_law_X5_image : GoodIn wsL_law wsX5_image := goodIn_r _ [678, 679, 274, 267, 268, 269, 5, 270, 271, 272, 51, 52, 53, 54, 55, 273, 275, 276, 277, 278, 62, 279, 280, 281, 282, 711, 712, 713, 714, 715, 716, 717, 718, 719, 720, 721, 722, 723, 724, 725, 726, 727, 728, 729, 730, 731, 732, 733, 734] (by decide +kernel) (by decide +kernel)
set_option maxRecDepth 20000 in
theorem gL_law_X5_image : GoodIn wsL_law (wsV RL 109 RX5 yX5_image wsX5_image) := goodIn_app (goodIn_of _ (by decide +kernel)) ggL_law_X5_image
set_option maxRecDepth 20000 in
theorem ggL_law_X4_back : GoodIn wsL_law wsX4_back := goodIn_r _ [683, 674, 15, 17, 395, 69, 70, 71, 2, 72, 28, 129, 130, 131, 14, 132, 32, 33, 34, 35, 36, 133, 134, 702, 703, 704, 705, 706, 707, 708, 709, 710, 735, 736, 737, 738, 739, 740, 741] (by decide +kernel) (by decide +kernel)
set_option maxRecDepth 20000 in
theorem gL_law_X4_back : GoodIn wsL_law (wsV RL 110 RX4 yX4_back wsX4_back) := goodIn_app (goodIn_of _ (by decide +kernel)) ggL_law_X4_back
set_option maxRecDepth 20000 in
theorem ggL_law_X5_back : GoodIn wsL_law wsX5_back := goodIn_r _ [687, 679, 274, 90, 91, 92, 5, 93, 50, 267, 268, 269, 270, 271, 272, 51, 52, 53, 54, 55, 273, 275, 276, 277, 278, 62, 279, 280, 281, 282, 711, 712, 713, 714, 715, 716, 717, 718, 719, 720, 721, 722, 723, 724, 725, 726, 727, 728, 729, 730, 731, 732, 733, 734] (by decide +kernel) (by decide +kernel)
set_option maxRecDepth 20000 in
theorem gL_law_X5_back : GoodIn wsL_law (wsV RL 113 RX5 yX5_back wsX5_back) := goodIn_app (goodIn_of _ (by decide +kernel)) ggL_law_X5_back
set_option maxRecDepth 20000 in
theorem ggL_law_X4_count : GoodIn wsL_law wsX4_count := goodIn_r _ [691, 15, 692, 395, 338, 336, 613, 21, 693, 28, 503, 198, 199, 14, 200, 166, 167, 168, 169, 133, 34, 623, 210, 211, 212, 213, 214, 215, 694, 695, 696, 697, 702, 703, 704, 705, 706, 707, 708, 709, 710, 735, 736, 737, 738, 739, 740, 741, 742, 743] (by decide +kernel) (by decide +kernel)
set_option maxRecDepth 20000 in
theorem gL_law_X4_count : GoodIn wsL_law (wsV RL 114 RX4 yX4_count wsX4_count) := goodIn_app (goodIn_of _ (by decide +kernel)) ggL_law_X4_count
set_option maxRecDepth 20000 in
theorem ggL_law_X5_count : GoodIn wsL_law wsX5_count := goodIn_r _ [701, 50, 273, 274, 53, 54, 52, 618, 86, 260, 261, 5, 262, 409, 410, 411, 412, 633, 634, 635, 711, 712, 713, 714, 715, 716, 717, 718, 719, 720, 721, 722, 723, 724, 725, 726, 727, 728, 729, 730, 731, 732, 733, 734] (by decide +kernel) (by decide +kernel)
set_option maxRecDepth 20000 in
theorem gL_law_X5_count : GoodIn wsL_law (wsV RL 117 RX5 yX5_count wsX5_count) := goodIn_app (goodIn_of _ (by decide +kernel)) ggL_law_X5_count
end
section
theorem dL_law_0 : decode cL_law 0 = .ok (.new 7, 3) := by decide +kernel
theorem dL_law_3 : decode cL_law 3 = .ok (.dup, 1) := by decide +kernel
theorem dL_law_4 : decode cL_law 4 = .ok (.invokespecial 9, 3) := by decide +kernel
theorem dL_law_7 : decode cL_law 7 = .ok (.astore_n 1, 1) := by decide +kernel
theorem dL_law_8 : decode cL_law 8 = .ok (.new 10, 3) := by decide +kernel
theorem dL_law_11 : decode cL_law 11 = .ok (.dup, 1) := by decide +kernel
theorem dL_law_12 : decode cL_law 12 = .ok (.invokespecial 12, 3) := by decide +kernel
theorem dL_law_15 : decode cL_law 15 = .ok (.astore_n 2, 1) := by decide +kernel
theorem dL_law_16 : decode cL_law 16 = .ok (.iconst 0, 1) := by decide +kernel
theorem dL_law_17 : decode cL_law 17 = .ok (.istore_n 3, 1) := by decide +kernel
theorem dL_law_18 : decode cL_law 18 = .ok (.iload_n 3, 1) := by decide +kernel
theorem dL_law_19 : decode cL_law 19 = .ok (.aload_n 0, 1) := by decide +kernel
theorem dL_law_20 : decode cL_law 20 = .ok (.arraylength, 1) := by decide +kernel
theorem dL_law_21 : decode cL_law 21 = .ok (.iconst 5, 1) := by decide +kernel
theorem dL_law_22 : decode cL_law 22 = .ok (.isub, 1) := by decide +kernel
theorem dL_law_23 : decode cL_law 23 = .ok (.if_icmp .gt 717, 3) := by decide +kernel
theorem dL_law_26 : decode cL_law 26 = .ok (.aload_n 0, 1) := by decide +kernel
theorem dL_law_27 : decode cL_law 27 = .ok (.iload_n 3, 1) := by decide +kernel
theorem dL_law_28 : decode cL_law 28 = .ok (.iaload, 1) := by decide +kernel
theorem dL_law_29 : decode cL_law 29 = .ok (.bipush 31, 2) := by decide +kernel
theorem dL_law_31 : decode cL_law 31 = .ok (.iand, 1) := by decide +kernel
theorem dL_law_32 : decode cL_law 32 = .ok (.tableswitch 702 0 24 #[116, 139, 152, 195, 228, 261, 284, 307, 361, 374, 417, 430, 453, 476, 489, 502, 515, 528, 561, 584, 607, 620, 653, 666, 679], 116) := by decide +kernel
theorem dL_law_148 : decode cL_law 148 = .ok (.aload_n 1, 1) := by decide +kernel
theorem dL_law_149 : decode cL_law 149 = .ok (.aload_n 0, 1) := by decide +kernel
theorem dL_law_150 : decode cL_law 150 = .ok (.iload_n 3, 1) := by decide +kernel
theorem dL_law_151 : decode cL_law 151 = .ok (.iconst 1, 1) := by decide +kernel
theorem dL_law_152 : decode cL_law 152 = .ok (.iadd, 1) := by decide +kernel
theorem dL_law_153 : decode cL_law 153 = .ok (.iaload, 1) := by decide +kernel
theorem dL_law_154 : decode cL_law 154 = .ok (.invokevirtual 13, 3) := by decide +kernel
theorem dL_law_157 : decode cL_law 157 = .ok (.aload_n 2, 1) := by decide +kernel
theorem dL_law_158 : decode cL_law 158 = .ok (.aload_n 0, 1) := by decide +kernel
theorem dL_law_159 : decode cL_law 159 = .ok (.iload_n 3, 1) := by decide +kernel
theorem dL_law_160 : decode cL_law 160 = .ok (.iconst 1, 1) := by decide +kernel
theorem dL_law_161 : decode cL_law 161 = .ok (.iadd, 1) := by decide +kernel
theorem dL_law_162 : decode cL_law 162 = .ok (.iaload, 1) := by decide +kernel
theorem dL_law_163 : decode cL_law 163 = .ok (.invokevirtual 17, 3) := by decide +kernel
theorem dL_law_166 : decode cL_law 166 = .ok (.if_icmp .eq 568, 3) := by decide +kernel
theorem dL_law_169 : decode cL_law 169 = .ok (.iconst 0, 1) := by decide +kernel
theorem dL_law_170 : decode cL_law 170 = .ok (.ireturn, 1) := by decide +kernel
theorem dL_law_171 : decode cL_law 171 = .ok (.aload_n 1, 1) := by decide +kernel
theorem dL_law_172 : decode cL_law 172 = .ok (.invokevirtual 18, 3) := by decide +kernel
theorem dL_law_175 : decode cL_law 175 = .ok (.aload_n 2, 1) := by decide +kernel
theorem dL_law_176 : decode cL_law 176 = .ok (.invokevirtual 22, 3) := by decide +kernel
theorem dL_law_179 : decode cL_law 179 = .ok (.if_icmp .eq 555, 3) := by decide +kernel
theorem dL_law_182 : decode cL_law 182 = .ok (.iconst 0, 1) := by decide +kernel
theorem dL_law_183 : decode cL_law 183 = .ok (.ireturn, 1) := by decide +kernel
theorem dL_law_184 : decode cL_law 184 = .ok (.aload_n 1, 1) := by decide +kernel
theorem dL_law_185 : decode cL_law 185 = .ok (.aload_n 0, 1) := by decide +kernel
theorem dL_law_186 : decode cL_law 186 = .ok (.iload_n 3, 1) := by decide +kernel
theorem dL_law_187 : decode cL_law 187 = .ok (.iconst 1, 1) := by decide +kernel
theorem dL_law_188 : decode cL_law 188 = .ok (.iadd, 1) := by decide +kernel
theorem dL_law_189 : decode cL_law 189 = .ok (.iaload, 1) := by decide +kernel
theorem dL_law_190 : decode cL_law 190 = .ok (.aload_n 0, 1) := by decide +kernel
theorem dL_law_191 : decode cL_law 191 = .ok (.iload_n 3, 1) := by decide +kernel
theorem dL_law_192 : decode cL_law 192 = .ok (.iconst 2, 1) := by decide +kernel
theorem dL_law_193 : decode cL_law 193 = .ok (.iadd, 1) := by decide +kernel
theorem dL_law_194 : decode cL_law 194 = .ok (.iaload, 1) := by decide +kernel
theorem dL_law_195 : decode cL_law 195 = .ok (.aload_n 0, 1) := by decide +kernel
theorem dL_law_196 : decode cL_law 196 = .ok (.iload_n 3, 1) := by decide +kernel
theorem dL_law_197 : decode cL_law 197 = .ok (.iconst 3, 1) := by decide +kernel
theorem dL_law_198 : decode cL_law 198 = .ok (.iadd, 1) := by decide +kernel
theorem dL_law_199 : decode cL_law 199 = .ok (.iaload, 1) := by decide +kernel
theorem dL_law_200 : decode cL_law 200 = .ok (.invokevirtual 23, 3) := by decide +kernel
theorem dL_law_203 : decode cL_law 203 = .ok (.aload_n 2, 1) := by decide +kernel
theorem dL_law_204 : decode cL_law 204 = .ok (.aload_n 0, 1) := by decide +kernel
theorem dL_law_205 : decode cL_law 205 = .ok (.iload_n 3, 1) := by decide +kernel
theorem dL_law_206 : decode cL_law 206 = .ok (.iconst 1, 1) := by decide +kernel
theorem dL_law_207 : decode cL_law 207 = .ok (.iadd, 1) := by decide +kernel
theorem dL_law_208 : decode cL_law 208 = .ok (.iaload, 1) := by decide +kernel
theorem dL_law_209 : decode cL_law 209 = .ok (.aload_n 0, 1) := by decide +kernel
theorem dL_law_210 : decode cL_law 210 = .ok (.iload_n 3, 1) := by decide +kernel
theorem dL_law_211 : decode cL_law 211 = .ok (.iconst 2, 1) := by decide +kernel
theorem dL_law_212 : decode cL_law 212 = .ok (.iadd, 1) := by decide +kernel
theorem dL_law_213 : decode cL_law 213 = .ok (.iaload, 1) := by decide +kernel
theorem dL_law_214 : decode cL_law 214 = .ok (.aload_n 0, 1) := by decide +kernel
theorem dL_law_215 : decode cL_law 215 = .ok (.iload_n 3, 1) := by decide +kernel
theorem dL_law_216 : decode cL_law 216 = .ok (.iconst 3, 1) := by decide +kernel
theorem dL_law_217 : decode cL_law 217 = .ok (.iadd, 1) := by decide +kernel
theorem dL_law_218 : decode cL_law 218 = .ok (.iaload, 1) := by decide +kernel
theorem dL_law_219 : decode cL_law 219 = .ok (.invokevirtual 27, 3) := by decide +kernel
theorem dL_law_222 : decode cL_law 222 = .ok (.if_icmp .eq 512, 3) := by decide +kernel
theorem dL_law_225 : decode cL_law 225 = .ok (.iconst 0, 1) := by decide +kernel
theorem dL_law_226 : decode cL_law 226 = .ok (.ireturn, 1) := by decide +kernel
theorem dL_law_227 : decode cL_law 227 = .ok (.aload_n 1, 1) := by decide +kernel
theorem dL_law_228 : decode cL_law 228 = .ok (.aload_n 0, 1) := by decide +kernel
theorem dL_law_229 : decode cL_law 229 = .ok (.iload_n 3, 1) := by decide +kernel
theorem dL_law_230 : decode cL_law 230 = .ok (.iconst 1, 1) := by decide +kernel
theorem dL_law_231 : decode cL_law 231 = .ok (.iadd, 1) := by decide +kernel
theorem dL_law_232 : decode cL_law 232 = .ok (.iaload, 1) := by decide +kernel
theorem dL_law_233 : decode cL_law 233 = .ok (.aload_n 0, 1) := by decide +kernel
theorem dL_law_234 : decode cL_law 234 = .ok (.iload_n 3, 1) := by decide +kernel
theorem dL_law_235 : decode cL_law 235 = .ok (.iconst 2, 1) := by decide +kernel
theorem dL_law_236 : decode cL_law 236 = .ok (.iadd, 1) := by decide +kernel
theorem dL_law_237 : decode cL_law 237 = .ok (.iaload, 1) := by decide +kernel
theorem dL_law_238 : decode cL_law 238 = .ok (.invokevirtual 28, 3) := by decide +kernel
theorem dL_law_241 : decode cL_law 241 = .ok (.aload_n 2, 1) := by decide +kernel
theorem dL_law_242 : decode cL_law 242 = .ok (.aload_n 0, 1) := by decide +kernel
theorem dL_law_243 : decode cL_law 243 = .ok (.iload_n 3, 1) := by decide +kernel
theorem dL_law_244 : decode cL_law 244 = .ok (.iconst 1, 1) := by decide +kernel
theorem dL_law_245 : decode cL_law 245 = .ok (.iadd, 1) := by decide +kernel
theorem dL_law_246 : decode cL_law 246 = .ok (.iaload, 1) := by decide +kernel
theorem dL_law_247 : decode cL_law 247 = .ok (.aload_n 0, 1) := by decide +kernel
theorem dL_law_248 : decode cL_law 248 = .ok (.iload_n 3, 1) := by decide +kernel
theorem dL_law_249 : decode cL_law 249 = .ok (.iconst 2, 1) := by decide +kernel
theorem dL_law_250 : decode cL_law 250 = .ok (.iadd, 1) := by decide +kernel
theorem dL_law_251 : decode cL_law 251 = .ok (.iaload, 1) := by decide +kernel
theorem dL_law_252 : decode cL_law 252 = .ok (.invokevirtual 32, 3) := by decide +kernel
theorem dL_law_255 : decode cL_law 255 = .ok (.if_icmp .eq 479, 3) := by decide +kernel
theorem dL_law_258 : decode cL_law 258 = .ok (.iconst 0, 1) := by decide +kernel
theorem dL_law_259 : decode cL_law 259 = .ok (.ireturn, 1) := by decide +kernel
theorem dL_law_260 : decode cL_law 260 = .ok (.aload_n 1, 1) := by decide +kernel
theorem dL_law_261 : decode cL_law 261 = .ok (.aload_n 0, 1) := by decide +kernel
theorem dL_law_262 : decode cL_law 262 = .ok (.iload_n 3, 1) := by decide +kernel
theorem dL_law_263 : decode cL_law 263 = .ok (.iconst 1, 1) := by decide +kernel
theorem dL_law_264 : decode cL_law 264 = .ok (.iadd, 1) := by decide +kernel
theorem dL_law_265 : decode cL_law 265 = .ok (.iaload, 1) := by decide +kernel
theorem dL_law_266 : decode cL_law 266 = .ok (.aload_n 0, 1) := by decide +kernel
theorem dL_law_267 : decode cL_law 267 = .ok (.iload_n 3, 1) := by decide +kernel
theorem dL_law_268 : decode cL_law 268 = .ok (.iconst 2, 1) := by decide +kernel
theorem dL_law_269 : decode cL_law 269 = .ok (.iadd, 1) := by decide +kernel
theorem dL_law_270 : decode cL_law 270 = .ok (.iaload, 1) := by decide +kernel
theorem dL_law_271 : decode cL_law 271 = .ok (.invokevirtual 33, 3) := by decide +kernel
theorem dL_law_274 : decode cL_law 274 = .ok (.aload_n 2, 1) := by decide +kernel
theorem dL_law_275 : decode cL_law 275 = .ok (.aload_n 0, 1) := by decide +kernel
theorem dL_law_276 : decode cL_law 276 = .ok (.iload_n 3, 1) := by decide +kernel
theorem dL_law_277 : decode cL_law 277 = .ok (.iconst 1, 1) := by decide +kernel
theorem dL_law_278 : decode cL_law 278 = .ok (.iadd, 1) := by decide +kernel
theorem dL_law_279 : decode cL_law 279 = .ok (.iaload, 1) := by decide +kernel
theorem dL_law_280 : decode cL_law 280 = .ok (.aload_n 0, 1) := by decide +kernel
theorem dL_law_281 : decode cL_law 281 = .ok (.iload_n 3, 1) := by decide +kernel
theorem dL_law_282 : decode cL_law 282 = .ok (.iconst 2, 1) := by decide +kernel
theorem dL_law_283 : decode cL_law 283 = .ok (.iadd, 1) := by decide +kernel
theorem dL_law_284 : decode cL_law 284 = .ok (.iaload, 1) := by decide +kernel
theorem dL_law_285 : decode cL_law 285 = .ok (.invokevirtual 36, 3) := by decide +kernel
theorem dL_law_288 : decode cL_law 288 = .ok (.if_icmp .eq 446, 3) := by decide +kernel
theorem dL_law_291 : decode cL_law 291 = .ok (.iconst 0, 1) := by decide +kernel
theorem dL_law_292 : decode cL_law 292 = .ok (.ireturn, 1) := by decide +kernel
theorem dL_law_293 : decode cL_law 293 = .ok (.aload_n 1, 1) := by decide +kernel
theorem dL_law_294 : decode cL_law 294 = .ok (.aload_n 0, 1) := by decide +kernel
theorem dL_law_295 : decode cL_law 295 = .ok (.iload_n 3, 1) := by decide +kernel
theorem dL_law_296 : decode cL_law 296 = .ok (.iconst 1, 1) := by decide +kernel
theorem dL_law_297 : decode cL_law 297 = .ok (.iadd, 1) := by decide +kernel
theorem dL_law_298 : decode cL_law 298 = .ok (.iaload, 1) := by decide +kernel
theorem dL_law_299 : decode cL_law 299 = .ok (.invokevirtual 37, 3) := by decide +kernel
theorem dL_law_302 : decode cL_law 302 = .ok (.aload_n 2, 1) := by decide +kernel
theorem dL_law_303 : decode cL_law 303 = .ok (.aload_n 0, 1) := by decide +kernel
theorem dL_law_304 : decode cL_law 304 = .ok (.iload_n 3, 1) := by decide +kernel
theorem dL_law_305 : decode cL_law 305 = .ok (.iconst 1, 1) := by decide +kernel
theorem dL_law_306 : decode cL_law 306 = .ok (.iadd, 1) := by decide +kernel
theorem dL_law_307 : decode cL_law 307 = .ok (.iaload, 1) := by decide +kernel
theorem dL_law_308 : decode cL_law 308 = .ok (.invokevirtual 40, 3) := by decide +kernel
theorem dL_law_311 : decode cL_law 311 = .ok (.if_icmp .eq 423, 3) := by decide +kernel
theorem dL_law_314 : decode cL_law 314 = .ok (.iconst 0, 1) := by decide +kernel
theorem dL_law_315 : decode cL_law 315 = .ok (.ireturn, 1) := by decide +kernel
theorem dL_law_316 : decode cL_law 316 = .ok (.aload_n 1, 1) := by decide +kernel
theorem dL_law_317 : decode cL_law 317 = .ok (.aload_n 0, 1) := by decide +kernel
theorem dL_law_318 : decode cL_law 318 = .ok (.iload_n 3, 1) := by decide +kernel
theorem dL_law_319 : decode cL_law 319 = .ok (.iconst 1, 1) := by decide +kernel
theorem dL_law_320 : decode cL_law 320 = .ok (.iadd, 1) := by decide +kernel
theorem dL_law_321 : decode cL_law 321 = .ok (.iaload, 1) := by decide +kernel
theorem dL_law_322 : decode cL_law 322 = .ok (.invokevirtual 41, 3) := by decide +kernel
theorem dL_law_325 : decode cL_law 325 = .ok (.aload_n 2, 1) := by decide +kernel
theorem dL_law_326 : decode cL_law 326 = .ok (.aload_n 0, 1) := by decide +kernel
theorem dL_law_327 : decode cL_law 327 = .ok (.iload_n 3, 1) := by decide +kernel
theorem dL_law_328 : decode cL_law 328 = .ok (.iconst 1, 1) := by decide +kernel
theorem dL_law_329 : decode cL_law 329 = .ok (.iadd, 1) := by decide +kernel
theorem dL_law_330 : decode cL_law 330 = .ok (.iaload, 1) := by decide +kernel
theorem dL_law_331 : decode cL_law 331 = .ok (.invokevirtual 44, 3) := by decide +kernel
theorem dL_law_334 : decode cL_law 334 = .ok (.if_icmp .eq 400, 3) := by decide +kernel
theorem dL_law_337 : decode cL_law 337 = .ok (.iconst 0, 1) := by decide +kernel
theorem dL_law_338 : decode cL_law 338 = .ok (.ireturn, 1) := by decide +kernel
theorem dL_law_339 : decode cL_law 339 = .ok (.aload_n 1, 1) := by decide +kernel
theorem dL_law_340 : decode cL_law 340 = .ok (.aload_n 0, 1) := by decide +kernel
theorem dL_law_341 : decode cL_law 341 = .ok (.iload_n 3, 1) := by decide +kernel
theorem dL_law_342 : decode cL_law 342 = .ok (.iconst 1, 1) := by decide +kernel
theorem dL_law_343 : decode cL_law 343 = .ok (.iadd, 1) := by decide +kernel
theorem dL_law_344 : decode cL_law 344 = .ok (.iaload, 1) := by decide +kernel
theorem dL_law_345 : decode cL_law 345 = .ok (.aload_n 0, 1) := by decide +kernel
theorem dL_law_346 : decode cL_law 346 = .ok (.iload_n 3, 1) := by decide +kernel
theorem dL_law_347 : decode cL_law 347 = .ok (.iconst 2, 1) := by decide +kernel
theorem dL_law_348 : decode cL_law 348 = .ok (.iadd, 1) := by decide +kernel
theorem dL_law_349 : decode cL_law 349 = .ok (.iaload, 1) := by decide +kernel
theorem dL_law_350 : decode cL_law 350 = .ok (.aload_n 0, 1) := by decide +kernel
theorem dL_law_351 : decode cL_law 351 = .ok (.iload_n 3, 1) := by decide +kernel
theorem dL_law_352 : decode cL_law 352 = .ok (.iconst 3, 1) := by decide +kernel
theorem dL_law_353 : decode cL_law 353 = .ok (.iadd, 1) := by decide +kernel
theorem dL_law_354 : decode cL_law 354 = .ok (.iaload, 1) := by decide +kernel
theorem dL_law_355 : decode cL_law 355 = .ok (.aload_n 0, 1) := by decide +kernel
theorem dL_law_356 : decode cL_law 356 = .ok (.iload_n 3, 1) := by decide +kernel
theorem dL_law_357 : decode cL_law 357 = .ok (.iconst 4, 1) := by decide +kernel
theorem dL_law_358 : decode cL_law 358 = .ok (.iadd, 1) := by decide +kernel
theorem dL_law_359 : decode cL_law 359 = .ok (.iaload, 1) := by decide +kernel
theorem dL_law_360 : decode cL_law 360 = .ok (.invokevirtual 45, 3) := by decide +kernel
theorem dL_law_363 : decode cL_law 363 = .ok (.aload_n 2, 1) := by decide +kernel
theorem dL_law_364 : decode cL_law 364 = .ok (.aload_n 0, 1) := by decide +kernel
theorem dL_law_365 : decode cL_law 365 = .ok (.iload_n 3, 1) := by decide +kernel
theorem dL_law_366 : decode cL_law 366 = .ok (.iconst 1, 1) := by decide +kernel
theorem dL_law_367 : decode cL_law 367 = .ok (.iadd, 1) := by decide +kernel
theorem dL_law_368 : decode cL_law 368 = .ok (.iaload, 1) := by decide +kernel
theorem dL_law_369 : decode cL_law 369 = .ok (.aload_n 0, 1) := by decide +kernel
theorem dL_law_370 : decode cL_law 370 = .ok (.iload_n 3, 1) := by decide +kernel
theorem dL_law_371 : decode cL_law 371 = .ok (.iconst 2, 1) := by decide +kernel
theorem dL_law_372 : decode cL_law 372 = .ok (.iadd, 1) := by decide +kernel
theorem dL_law_373 : decode cL_law 373 = .ok (.iaload, 1) := by decide +kernel
theorem dL_law_374 : decode cL_law 374 = .ok (.aload_n 0, 1) := by decide +kernel
theorem dL_law_375 : decode cL_law 375 = .ok (.iload_n 3, 1) := by decide +kernel
theorem dL_law_376 : decode cL_law 376 = .ok (.iconst 3, 1) := by decide +kernel
theorem dL_law_377 : decode cL_law 377 = .ok (.iadd, 1) := by decide +kernel
theorem dL_law_378 : decode cL_law 378 = .ok (.iaload, 1) := by decide +kernel
theorem dL_law_379 : decode cL_law 379 = .ok (.aload_n 0, 1) := by decide +kernel
theorem dL_law_380 : decode cL_law 380 = .ok (.iload_n 3, 1) := by decide +kernel
theorem dL_law_381 : decode cL_law 381 = .ok (.iconst 4, 1) := by decide +kernel
theorem dL_law_382 : decode cL_law 382 = .ok (.iadd, 1) := by decide +kernel
theorem dL_law_383 : decode cL_law 383 = .ok (.iaload, 1) := by decide +kernel
theorem dL_law_384 : decode cL_law 384 = .ok (.invokevirtual 49, 3) := by decide +kernel
theorem dL_law_387 : decode cL_law 387 = .ok (.lcmp, 1) := by decide +kernel
theorem dL_law_388 : decode cL_law 388 = .ok (.ifCond .eq 346, 3) := by decide +kernel
theorem dL_law_391 : decode cL_law 391 = .ok (.iconst 0, 1) := by decide +kernel
theorem dL_law_392 : decode cL_law 392 = .ok (.ireturn, 1) := by decide +kernel
theorem dL_law_393 : decode cL_law 393 = .ok (.aload_n 1, 1) := by decide +kernel
theorem dL_law_394 : decode cL_law 394 = .ok (.invokevirtual 50, 3) := by decide +kernel
theorem dL_law_397 : decode cL_law 397 = .ok (.aload_n 2, 1) := by decide +kernel
theorem dL_law_398 : decode cL_law 398 = .ok (.invokevirtual 53, 3) := by decide +kernel
theorem dL_law_401 : decode cL_law 401 = .ok (.if_icmp .eq 333, 3) := by decide +kernel
theorem dL_law_404 : decode cL_law 404 = .ok (.iconst 0, 1) := by decide +kernel
theorem dL_law_405 : decode cL_law 405 = .ok (.ireturn, 1) := by decide +kernel
theorem dL_law_406 : decode cL_law 406 = .ok (.aload_n 1, 1) := by decide +kernel
theorem dL_law_407 : decode cL_law 407 = .ok (.aload_n 0, 1) := by decide +kernel
theorem dL_law_408 : decode cL_law 408 = .ok (.iload_n 3, 1) := by decide +kernel
theorem dL_law_409 : decode cL_law 409 = .ok (.iconst 1, 1) := by decide +kernel
theorem dL_law_410 : decode cL_law 410 = .ok (.iadd, 1) := by decide +kernel
theorem dL_law_411 : decode cL_law 411 = .ok (.iaload, 1) := by decide +kernel
theorem dL_law_412 : decode cL_law 412 = .ok (.aload_n 0, 1) := by decide +kernel
theorem dL_law_413 : decode cL_law 413 = .ok (.iload_n 3, 1) := by decide +kernel
theorem dL_law_414 : decode cL_law 414 = .ok (.iconst 2, 1) := by decide +kernel
theorem dL_law_415 : decode cL_law 415 = .ok (.iadd, 1) := by decide +kernel
theorem dL_law_416 : decode cL_law 416 = .ok (.iaload, 1) := by decide +kernel
theorem dL_law_417 : decode cL_law 417 = .ok (.aload_n 0, 1) := by decide +kernel
theorem dL_law_418 : decode cL_law 418 = .ok (.iload_n 3, 1) := by decide +kernel
theorem dL_law_419 : decode cL_law 419 = .ok (.iconst 3, 1) := by decide +kernel
theorem dL_law_420 : decode cL_law 420 = .ok (.iadd, 1) := by decide +kernel
theorem dL_law_421 : decode cL_law 421 = .ok (.iaload, 1) := by decide +kernel
theorem dL_law_422 : decode cL_law 422 = .ok (.invokevirtual 54, 3) := by decide +kernel
theorem dL_law_425 : decode cL_law 425 = .ok (.aload_n 2, 1) := by decide +kernel
theorem dL_law_426 : decode cL_law 426 = .ok (.aload_n 0, 1) := by decide +kernel
theorem dL_law_427 : decode cL_law 427 = .ok (.iload_n 3, 1) := by decide +kernel
theorem dL_law_428 : decode cL_law 428 = .ok (.iconst 1, 1) := by decide +kernel
theorem dL_law_429 : decode cL_law 429 = .ok (.iadd, 1) := by decide +kernel
theorem dL_law_430 : decode cL_law 430 = .ok (.iaload, 1) := by decide +kernel
theorem dL_law_431 : decode cL_law 431 = .ok (.aload_n 0, 1) := by decide +kernel
theorem dL_law_432 : decode cL_law 432 = .ok (.iload_n 3, 1) := by decide +kernel
theorem dL_law_433 : decode cL_law 433 = .ok (.iconst 2, 1) := by decide +kernel
theorem dL_law_434 : decode cL_law 434 = .ok (.iadd, 1) := by decide +kernel
theorem dL_law_435 : decode cL_law 435 = .ok (.iaload, 1) := by decide +kernel
theorem dL_law_436 : decode cL_law 436 = .ok (.aload_n 0, 1) := by decide +kernel
theorem dL_law_437 : decode cL_law 437 = .ok (.iload_n 3, 1) := by decide +kernel
theorem dL_law_438 : decode cL_law 438 = .ok (.iconst 3, 1) := by decide +kernel
theorem dL_law_439 : decode cL_law 439 = .ok (.iadd, 1) := by decide +kernel
theorem dL_law_440 : decode cL_law 440 = .ok (.iaload, 1) := by decide +kernel
theorem dL_law_441 : decode cL_law 441 = .ok (.invokevirtual 57, 3) := by decide +kernel
theorem dL_law_444 : decode cL_law 444 = .ok (.if_icmp .eq 290, 3) := by decide +kernel
theorem dL_law_447 : decode cL_law 447 = .ok (.iconst 0, 1) := by decide +kernel
theorem dL_law_448 : decode cL_law 448 = .ok (.ireturn, 1) := by decide +kernel
theorem dL_law_449 : decode cL_law 449 = .ok (.aload_n 1, 1) := by decide +kernel
theorem dL_law_450 : decode cL_law 450 = .ok (.invokevirtual 58, 3) := by decide +kernel
theorem dL_law_453 : decode cL_law 453 = .ok (.aload_n 2, 1) := by decide +kernel
theorem dL_law_454 : decode cL_law 454 = .ok (.invokevirtual 61, 3) := by decide +kernel
theorem dL_law_457 : decode cL_law 457 = .ok (.if_icmp .eq 277, 3) := by decide +kernel
theorem dL_law_460 : decode cL_law 460 = .ok (.iconst 0, 1) := by decide +kernel
theorem dL_law_461 : decode cL_law 461 = .ok (.ireturn, 1) := by decide +kernel
theorem dL_law_462 : decode cL_law 462 = .ok (.aload_n 1, 1) := by decide +kernel
theorem dL_law_463 : decode cL_law 463 = .ok (.aload_n 0, 1) := by decide +kernel
theorem dL_law_464 : decode cL_law 464 = .ok (.iload_n 3, 1) := by decide +kernel
theorem dL_law_465 : decode cL_law 465 = .ok (.iconst 1, 1) := by decide +kernel
theorem dL_law_466 : decode cL_law 466 = .ok (.iadd, 1) := by decide +kernel
theorem dL_law_467 : decode cL_law 467 = .ok (.iaload, 1) := by decide +kernel
theorem dL_law_468 : decode cL_law 468 = .ok (.invokevirtual 62, 3) := by decide +kernel
theorem dL_law_471 : decode cL_law 471 = .ok (.aload_n 2, 1) := by decide +kernel
theorem dL_law_472 : decode cL_law 472 = .ok (.aload_n 0, 1) := by decide +kernel
theorem dL_law_473 : decode cL_law 473 = .ok (.iload_n 3, 1) := by decide +kernel
theorem dL_law_474 : decode cL_law 474 = .ok (.iconst 1, 1) := by decide +kernel
theorem dL_law_475 : decode cL_law 475 = .ok (.iadd, 1) := by decide +kernel
theorem dL_law_476 : decode cL_law 476 = .ok (.iaload, 1) := by decide +kernel
theorem dL_law_477 : decode cL_law 477 = .ok (.invokevirtual 65, 3) := by decide +kernel
theorem dL_law_480 : decode cL_law 480 = .ok (.if_icmp .eq 254, 3) := by decide +kernel
theorem dL_law_483 : decode cL_law 483 = .ok (.iconst 0, 1) := by decide +kernel
theorem dL_law_484 : decode cL_law 484 = .ok (.ireturn, 1) := by decide +kernel
theorem dL_law_485 : decode cL_law 485 = .ok (.aload_n 1, 1) := by decide +kernel
theorem dL_law_486 : decode cL_law 486 = .ok (.aload_n 0, 1) := by decide +kernel
theorem dL_law_487 : decode cL_law 487 = .ok (.iload_n 3, 1) := by decide +kernel
theorem dL_law_488 : decode cL_law 488 = .ok (.iconst 1, 1) := by decide +kernel
theorem dL_law_489 : decode cL_law 489 = .ok (.iadd, 1) := by decide +kernel
theorem dL_law_490 : decode cL_law 490 = .ok (.iaload, 1) := by decide +kernel
theorem dL_law_491 : decode cL_law 491 = .ok (.invokevirtual 66, 3) := by decide +kernel
theorem dL_law_494 : decode cL_law 494 = .ok (.aload_n 2, 1) := by decide +kernel
theorem dL_law_495 : decode cL_law 495 = .ok (.aload_n 0, 1) := by decide +kernel
theorem dL_law_496 : decode cL_law 496 = .ok (.iload_n 3, 1) := by decide +kernel
theorem dL_law_497 : decode cL_law 497 = .ok (.iconst 1, 1) := by decide +kernel
theorem dL_law_498 : decode cL_law 498 = .ok (.iadd, 1) := by decide +kernel
theorem dL_law_499 : decode cL_law 499 = .ok (.iaload, 1) := by decide +kernel
theorem dL_law_500 : decode cL_law 500 = .ok (.invokevirtual 69, 3) := by decide +kernel
theorem dL_law_503 : decode cL_law 503 = .ok (.if_icmp .eq 231, 3) := by decide +kernel
theorem dL_law_506 : decode cL_law 506 = .ok (.iconst 0, 1) := by decide +kernel
theorem dL_law_507 : decode cL_law 507 = .ok (.ireturn, 1) := by decide +kernel
theorem dL_law_508 : decode cL_law 508 = .ok (.aload_n 1, 1) := by decide +kernel
theorem dL_law_509 : decode cL_law 509 = .ok (.invokevirtual 70, 3) := by decide +kernel
theorem dL_law_512 : decode cL_law 512 = .ok (.aload_n 2, 1) := by decide +kernel
theorem dL_law_513 : decode cL_law 513 = .ok (.invokevirtual 73, 3) := by decide +kernel
theorem dL_law_516 : decode cL_law 516 = .ok (.if_icmp .eq 218, 3) := by decide +kernel
theorem dL_law_519 : decode cL_law 519 = .ok (.iconst 0, 1) := by decide +kernel
theorem dL_law_520 : decode cL_law 520 = .ok (.ireturn, 1) := by decide +kernel
theorem dL_law_521 : decode cL_law 521 = .ok (.aload_n 1, 1) := by decide +kernel
theorem dL_law_522 : decode cL_law 522 = .ok (.invokevirtual 74, 3) := by decide +kernel
theorem dL_law_525 : decode cL_law 525 = .ok (.aload_n 2, 1) := by decide +kernel
theorem dL_law_526 : decode cL_law 526 = .ok (.invokevirtual 77, 3) := by decide +kernel
theorem dL_law_529 : decode cL_law 529 = .ok (.if_icmp .eq 205, 3) := by decide +kernel
theorem dL_law_532 : decode cL_law 532 = .ok (.iconst 0, 1) := by decide +kernel
theorem dL_law_533 : decode cL_law 533 = .ok (.ireturn, 1) := by decide +kernel
theorem dL_law_534 : decode cL_law 534 = .ok (.aload_n 1, 1) := by decide +kernel
theorem dL_law_535 : decode cL_law 535 = .ok (.invokevirtual 78, 3) := by decide +kernel
theorem dL_law_538 : decode cL_law 538 = .ok (.aload_n 2, 1) := by decide +kernel
theorem dL_law_539 : decode cL_law 539 = .ok (.invokevirtual 81, 3) := by decide +kernel
theorem dL_law_542 : decode cL_law 542 = .ok (.if_icmp .eq 192, 3) := by decide +kernel
theorem dL_law_545 : decode cL_law 545 = .ok (.iconst 0, 1) := by decide +kernel
theorem dL_law_546 : decode cL_law 546 = .ok (.ireturn, 1) := by decide +kernel
theorem dL_law_547 : decode cL_law 547 = .ok (.aload_n 1, 1) := by decide +kernel
theorem dL_law_548 : decode cL_law 548 = .ok (.invokevirtual 82, 3) := by decide +kernel
theorem dL_law_551 : decode cL_law 551 = .ok (.aload_n 2, 1) := by decide +kernel
theorem dL_law_552 : decode cL_law 552 = .ok (.invokevirtual 85, 3) := by decide +kernel
theorem dL_law_555 : decode cL_law 555 = .ok (.if_icmp .eq 179, 3) := by decide +kernel
theorem dL_law_558 : decode cL_law 558 = .ok (.iconst 0, 1) := by decide +kernel
theorem dL_law_559 : decode cL_law 559 = .ok (.ireturn, 1) := by decide +kernel
theorem dL_law_560 : decode cL_law 560 = .ok (.aload_n 1, 1) := by decide +kernel
theorem dL_law_561 : decode cL_law 561 = .ok (.aload_n 0, 1) := by decide +kernel
theorem dL_law_562 : decode cL_law 562 = .ok (.iload_n 3, 1) := by decide +kernel
theorem dL_law_563 : decode cL_law 563 = .ok (.iconst 1, 1) := by decide +kernel
theorem dL_law_564 : decode cL_law 564 = .ok (.iadd, 1) := by decide +kernel
theorem dL_law_565 : decode cL_law 565 = .ok (.iaload, 1) := by decide +kernel
theorem dL_law_566 : decode cL_law 566 = .ok (.aload_n 0, 1) := by decide +kernel
theorem dL_law_567 : decode cL_law 567 = .ok (.iload_n 3, 1) := by decide +kernel
theorem dL_law_568 : decode cL_law 568 = .ok (.iconst 2, 1) := by decide +kernel
theorem dL_law_569 : decode cL_law 569 = .ok (.iadd, 1) := by decide +kernel
theorem dL_law_570 : decode cL_law 570 = .ok (.iaload, 1) := by decide +kernel
theorem dL_law_571 : decode cL_law 571 = .ok (.invokevirtual 86, 3) := by decide +kernel
theorem dL_law_574 : decode cL_law 574 = .ok (.aload_n 2, 1) := by decide +kernel
theorem dL_law_575 : decode cL_law 575 = .ok (.aload_n 0, 1) := by decide +kernel
theorem dL_law_576 : decode cL_law 576 = .ok (.iload_n 3, 1) := by decide +kernel
theorem dL_law_577 : decode cL_law 577 = .ok (.iconst 1, 1) := by decide +kernel
theorem dL_law_578 : decode cL_law 578 = .ok (.iadd, 1) := by decide +kernel
theorem dL_law_579 : decode cL_law 579 = .ok (.iaload, 1) := by decide +kernel
theorem dL_law_580 : decode cL_law 580 = .ok (.aload_n 0, 1) := by decide +kernel
theorem dL_law_581 : decode cL_law 581 = .ok (.iload_n 3, 1) := by decide +kernel
theorem dL_law_582 : decode cL_law 582 = .ok (.iconst 2, 1) := by decide +kernel
theorem dL_law_583 : decode cL_law 583 = .ok (.iadd, 1) := by decide +kernel
theorem dL_law_584 : decode cL_law 584 = .ok (.iaload, 1) := by decide +kernel
theorem dL_law_585 : decode cL_law 585 = .ok (.invokevirtual 89, 3) := by decide +kernel
theorem dL_law_588 : decode cL_law 588 = .ok (.if_icmp .eq 146, 3) := by decide +kernel
theorem dL_law_591 : decode cL_law 591 = .ok (.iconst 0, 1) := by decide +kernel
theorem dL_law_592 : decode cL_law 592 = .ok (.ireturn, 1) := by decide +kernel
theorem dL_law_593 : decode cL_law 593 = .ok (.aload_n 1, 1) := by decide +kernel
theorem dL_law_594 : decode cL_law 594 = .ok (.aload_n 0, 1) := by decide +kernel
theorem dL_law_595 : decode cL_law 595 = .ok (.iload_n 3, 1) := by decide +kernel
theorem dL_law_596 : decode cL_law 596 = .ok (.iconst 1, 1) := by decide +kernel
theorem dL_law_597 : decode cL_law 597 = .ok (.iadd, 1) := by decide +kernel
theorem dL_law_598 : decode cL_law 598 = .ok (.iaload, 1) := by decide +kernel
theorem dL_law_599 : decode cL_law 599 = .ok (.invokevirtual 90, 3) := by decide +kernel
theorem dL_law_602 : decode cL_law 602 = .ok (.aload_n 2, 1) := by decide +kernel
theorem dL_law_603 : decode cL_law 603 = .ok (.aload_n 0, 1) := by decide +kernel
theorem dL_law_604 : decode cL_law 604 = .ok (.iload_n 3, 1) := by decide +kernel
theorem dL_law_605 : decode cL_law 605 = .ok (.iconst 1, 1) := by decide +kernel
theorem dL_law_606 : decode cL_law 606 = .ok (.iadd, 1) := by decide +kernel
theorem dL_law_607 : decode cL_law 607 = .ok (.iaload, 1) := by decide +kernel
theorem dL_law_608 : decode cL_law 608 = .ok (.invokevirtual 93, 3) := by decide +kernel
theorem dL_law_611 : decode cL_law 611 = .ok (.if_icmp .eq 123, 3) := by decide +kernel
theorem dL_law_614 : decode cL_law 614 = .ok (.iconst 0, 1) := by decide +kernel
theorem dL_law_615 : decode cL_law 615 = .ok (.ireturn, 1) := by decide +kernel
theorem dL_law_616 : decode cL_law 616 = .ok (.aload_n 1, 1) := by decide +kernel
theorem dL_law_617 : decode cL_law 617 = .ok (.aload_n 0, 1) := by decide +kernel
theorem dL_law_618 : decode cL_law 618 = .ok (.iload_n 3, 1) := by decide +kernel
theorem dL_law_619 : decode cL_law 619 = .ok (.iconst 1, 1) := by decide +kernel
theorem dL_law_620 : decode cL_law 620 = .ok (.iadd, 1) := by decide +kernel
theorem dL_law_621 : decode cL_law 621 = .ok (.iaload, 1) := by decide +kernel
theorem dL_law_622 : decode cL_law 622 = .ok (.invokevirtual 94, 3) := by decide +kernel
theorem dL_law_625 : decode cL_law 625 = .ok (.aload_n 2, 1) := by decide +kernel
theorem dL_law_626 : decode cL_law 626 = .ok (.aload_n 0, 1) := by decide +kernel
theorem dL_law_627 : decode cL_law 627 = .ok (.iload_n 3, 1) := by decide +kernel
theorem dL_law_628 : decode cL_law 628 = .ok (.iconst 1, 1) := by decide +kernel
theorem dL_law_629 : decode cL_law 629 = .ok (.iadd, 1) := by decide +kernel
theorem dL_law_630 : decode cL_law 630 = .ok (.iaload, 1) := by decide +kernel
theorem dL_law_631 : decode cL_law 631 = .ok (.invokevirtual 97, 3) := by decide +kernel
theorem dL_law_634 : decode cL_law 634 = .ok (.if_icmp .eq 100, 3) := by decide +kernel
theorem dL_law_637 : decode cL_law 637 = .ok (.iconst 0, 1) := by decide +kernel
theorem dL_law_638 : decode cL_law 638 = .ok (.ireturn, 1) := by decide +kernel
theorem dL_law_639 : decode cL_law 639 = .ok (.aload_n 1, 1) := by decide +kernel
theorem dL_law_640 : decode cL_law 640 = .ok (.invokevirtual 98, 3) := by decide +kernel
theorem dL_law_643 : decode cL_law 643 = .ok (.aload_n 2, 1) := by decide +kernel
theorem dL_law_644 : decode cL_law 644 = .ok (.invokevirtual 101, 3) := by decide +kernel
theorem dL_law_647 : decode cL_law 647 = .ok (.if_icmp .eq 87, 3) := by decide +kernel
theorem dL_law_650 : decode cL_law 650 = .ok (.iconst 0, 1) := by decide +kernel
theorem dL_law_651 : decode cL_law 651 = .ok (.ireturn, 1) := by decide +kernel
theorem dL_law_652 : decode cL_law 652 = .ok (.aload_n 1, 1) := by decide +kernel
theorem dL_law_653 : decode cL_law 653 = .ok (.aload_n 0, 1) := by decide +kernel
theorem dL_law_654 : decode cL_law 654 = .ok (.iload_n 3, 1) := by decide +kernel
theorem dL_law_655 : decode cL_law 655 = .ok (.iconst 1, 1) := by decide +kernel
theorem dL_law_656 : decode cL_law 656 = .ok (.iadd, 1) := by decide +kernel
theorem dL_law_657 : decode cL_law 657 = .ok (.iaload, 1) := by decide +kernel
theorem dL_law_658 : decode cL_law 658 = .ok (.aload_n 0, 1) := by decide +kernel
theorem dL_law_659 : decode cL_law 659 = .ok (.iload_n 3, 1) := by decide +kernel
theorem dL_law_660 : decode cL_law 660 = .ok (.iconst 2, 1) := by decide +kernel
theorem dL_law_661 : decode cL_law 661 = .ok (.iadd, 1) := by decide +kernel
theorem dL_law_662 : decode cL_law 662 = .ok (.iaload, 1) := by decide +kernel
theorem dL_law_663 : decode cL_law 663 = .ok (.invokevirtual 102, 3) := by decide +kernel
theorem dL_law_666 : decode cL_law 666 = .ok (.aload_n 2, 1) := by decide +kernel
theorem dL_law_667 : decode cL_law 667 = .ok (.aload_n 0, 1) := by decide +kernel
theorem dL_law_668 : decode cL_law 668 = .ok (.iload_n 3, 1) := by decide +kernel
theorem dL_law_669 : decode cL_law 669 = .ok (.iconst 1, 1) := by decide +kernel
theorem dL_law_670 : decode cL_law 670 = .ok (.iadd, 1) := by decide +kernel
theorem dL_law_671 : decode cL_law 671 = .ok (.iaload, 1) := by decide +kernel
theorem dL_law_672 : decode cL_law 672 = .ok (.aload_n 0, 1) := by decide +kernel
theorem dL_law_673 : decode cL_law 673 = .ok (.iload_n 3, 1) := by decide +kernel
theorem dL_law_674 : decode cL_law 674 = .ok (.iconst 2, 1) := by decide +kernel
theorem dL_law_675 : decode cL_law 675 = .ok (.iadd, 1) := by decide +kernel
theorem dL_law_676 : decode cL_law 676 = .ok (.iaload, 1) := by decide +kernel
theorem dL_law_677 : decode cL_law 677 = .ok (.invokevirtual 105, 3) := by decide +kernel
theorem dL_law_680 : decode cL_law 680 = .ok (.if_icmp .eq 54, 3) := by decide +kernel
theorem dL_law_683 : decode cL_law 683 = .ok (.iconst 0, 1) := by decide +kernel
theorem dL_law_684 : decode cL_law 684 = .ok (.ireturn, 1) := by decide +kernel
theorem dL_law_685 : decode cL_law 685 = .ok (.aload_n 1, 1) := by decide +kernel
theorem dL_law_686 : decode cL_law 686 = .ok (.invokevirtual 106, 3) := by decide +kernel
theorem dL_law_689 : decode cL_law 689 = .ok (.aload_n 2, 1) := by decide +kernel
theorem dL_law_690 : decode cL_law 690 = .ok (.invokevirtual 109, 3) := by decide +kernel
theorem dL_law_693 : decode cL_law 693 = .ok (.if_icmp .eq 41, 3) := by decide +kernel
theorem dL_law_696 : decode cL_law 696 = .ok (.iconst 0, 1) := by decide +kernel
theorem dL_law_697 : decode cL_law 697 = .ok (.ireturn, 1) := by decide +kernel
theorem dL_law_698 : decode cL_law 698 = .ok (.aload_n 1, 1) := by decide +kernel
theorem dL_law_699 : decode cL_law 699 = .ok (.invokevirtual 110, 3) := by decide +kernel
theorem dL_law_702 : decode cL_law 702 = .ok (.aload_n 2, 1) := by decide +kernel
theorem dL_law_703 : decode cL_law 703 = .ok (.invokevirtual 113, 3) := by decide +kernel
theorem dL_law_706 : decode cL_law 706 = .ok (.if_icmp .eq 28, 3) := by decide +kernel
theorem dL_law_709 : decode cL_law 709 = .ok (.iconst 0, 1) := by decide +kernel
theorem dL_law_710 : decode cL_law 710 = .ok (.ireturn, 1) := by decide +kernel
theorem dL_law_711 : decode cL_law 711 = .ok (.aload_n 1, 1) := by decide +kernel
theorem dL_law_712 : decode cL_law 712 = .ok (.aload_n 0, 1) := by decide +kernel
theorem dL_law_713 : decode cL_law 713 = .ok (.iload_n 3, 1) := by decide +kernel
theorem dL_law_714 : decode cL_law 714 = .ok (.iconst 1, 1) := by decide +kernel
theorem dL_law_715 : decode cL_law 715 = .ok (.iadd, 1) := by decide +kernel
theorem dL_law_716 : decode cL_law 716 = .ok (.iaload, 1) := by decide +kernel
theorem dL_law_717 : decode cL_law 717 = .ok (.invokevirtual 114, 3) := by decide +kernel
theorem dL_law_720 : decode cL_law 720 = .ok (.aload_n 2, 1) := by decide +kernel
theorem dL_law_721 : decode cL_law 721 = .ok (.aload_n 0, 1) := by decide +kernel
theorem dL_law_722 : decode cL_law 722 = .ok (.iload_n 3, 1) := by decide +kernel
theorem dL_law_723 : decode cL_law 723 = .ok (.iconst 1, 1) := by decide +kernel
theorem dL_law_724 : decode cL_law 724 = .ok (.iadd, 1) := by decide +kernel
theorem dL_law_725 : decode cL_law 725 = .ok (.iaload, 1) := by decide +kernel
theorem dL_law_726 : decode cL_law 726 = .ok (.invokevirtual 117, 3) := by decide +kernel
theorem dL_law_729 : decode cL_law 729 = .ok (.if_icmp .eq 5, 3) := by decide +kernel
theorem dL_law_732 : decode cL_law 732 = .ok (.iconst 0, 1) := by decide +kernel
theorem dL_law_733 : decode cL_law 733 = .ok (.ireturn, 1) := by decide +kernel
theorem dL_law_734 : decode cL_law 734 = .ok (.iinc 3 5, 3) := by decide +kernel
theorem dL_law_737 : decode cL_law 737 = .ok (.goto (-719), 3) := by decide +kernel
theorem dL_law_740 : decode cL_law 740 = .ok (.iconst 1, 1) := by decide +kernel
theorem dL_law_741 : decode cL_law 741 = .ok (.ireturn, 1) := by decide +kernel
abbrev vwCl : List vw_C := [(RX1, TX1, 3), (RX2, TX2, 2), (RX3, TX3, 7), (RX4, TX4, 9), (RX5, TX5, 24)]
end
section
abbrev S32 : Type := Nat → Nat → Int32
abbrev S64 : Type := Nat → Nat → Int64

abbrev wT (h a0 a1 a2 a3 a4 : Nat) (c : ClassId) (S : S32) : va_W := [(h, .inr (2, [.ref a0, .ref a1, .ref a2, .ref a3, .ref a4, .int (S 5 0), .int (S 6 0)])), (a0, .inl (c, 8, .inl (S 0))), (a1, .inl (c, 8, .inl (S 1))), (a2, .inl (c, 8, .inl (S 2))), (a3, .inl (c, 8, .inl (S 3))), (a4, .inl (c, 8, .inl (S 4)))]
abbrev wL (h a0 : Nat) (c : ClassId) (S : S32) : va_W := [(h, .inr (1, [.ref a0, .int (S 1 0)])), (a0, .inl (c, 80, .inl (S 0)))]
abbrev wO (h a0 : Nat) (c : ClassId) (S : S64) : va_W := [(h, .inr (0, [.ref a0, .long (S 1 0), .long (S 2 0)])), (a0, .inl (c, 9, .inr (.inl (S 0))))]
abbrev wV (h a6 a8 r0 r1 r2 r4 r5 : Nat) (c : ClassId) (S : S32) : va_W := [(h, .inr (3, [.ref r0, .ref r1, .ref r2, .int (S 3 0), .ref r4, .ref r5, .ref a6, .int (S 7 0), .ref a8])), (a6, .inl (c, 8, .inl (S 6))), (a8, .inl (c, 7, .inl (S 8)))]
abbrev wM (h a0 a1 a2 a3 a4 a5 a8 a9 a10 a11 a12 a13 a17 a21 a22 : Nat) (c : ClassId) (S : S32) : va_W := [(h, .inr (4, [.ref a0, .ref a1, .ref a2, .ref a3, .ref a4, .ref a5, .int (S 6 0), .int (S 7 0), .ref a8, .ref a9, .ref a10, .ref a11, .ref a12, .ref a13, .int (S 14 0), .int (S 15 0), .int (S 16 0), .ref a17, .int (S 18 0), .int (S 19 0), .int (S 20 0), .ref a21, .ref a22, .int (S 23 0)])), (a0, .inl (c, 7, .inl (S 0))), (a1, .inl (c, 8, .inl (S 1))), (a2, .inl (c, 8, .inl (S 2))), (a3, .inl (c, 8, .inl (S 3))), (a4, .inl (c, 8, .inl (S 4))), (a5, .inl (c, 8, .inl (S 5))), (a8, .inl (c, 80, .inl (S 8))), (a9, .inl (c, 40, .inl (S 9))), (a10, .inl (c, 40, .inl (S 10))), (a11, .inl (c, 120, .inl (S 11))), (a12, .inl (c, 40, .inl (S 12))), (a13, .inl (c, 40, .inl (S 13))), (a17, .inl (c, 130, .inl (S 17))), (a21, .inl (c, 8, .inl (S 21))), (a22, .inl (c, 8, .inl (S 22)))]

theorem q_X3_isFull_1 : (Cond.fieldLink RX3 27 "UpWhenDies$Tower" "came" "I" : Cond) ∈ wsX3_isFull := List.mem_of_getElem? (i := 1) rfl
theorem i_X3_isFull_X3 : ∀ w ∈ wsX30, w ∈ wsX3_isFull := fun _ h => (List.mem_cons_of_mem _ (List.mem_append_right _ h))
abbrev rm_X3_isFull : Room := { frames := 0, cells := 0, slots := 0, locals := 0 }
def f_X3_isFull (fu : Nat) (ST : S32) : Option (Int32) := (if (ST 5 0) < (8 : Int32) then some ((0 : Int32)) else some ((1 : Int32)))
set_option maxHeartbeats 4000000 in
set_option maxRecDepth 100000 in
theorem c_X3_isFull (l : Launch) (D : va_G) (cI cJ : ClassId) (fu : Nat) (zt qt0 qt1 qt2 qt3 qt4 : Nat) (ST : S32) (o : Int32) (hf : f_X3_isFull fu ST = some o) : MI l yX3_isFull wsX3_isFull rm_X3_isFull D vwCl (tyS cI cJ) [.ref zt] (wT zt qt0 qt1 qt2 qt3 qt4 cI ST) (wT zt qt0 qt1 qt2 qt3 qt4 cI ST) (o) := by
  intro sz
  refine s_entry (own := RX3) (cc := cX3_isFull) (maxL := 1) (ret := (some .boolean)) (Qc := fun A => sZi D vwCl (tyS cI cJ) A (wT zt qt0 qt1 qt2 qt3 qt4 cI ST) (o)) rfl (by decide) rfl rfl (Nat.le_of_ble_eq_true rfl) ?_
  intro p e s m args below meth c A C0 hA hP hD hS ls hl
  obtain ⟨hx, hb, hr, hml, hown, hts, hlocks, hK⟩ := id C0
  have hl : lv_has ls 1 [(0, .ref zt)] := hl
  have hP : va_P D vwCl [(zt, .inr (2, [.ref qt0, .ref qt1, .ref qt2, .ref qt3, .ref qt4, .int (ST 5 0), .int (ST 6 0)])), (qt0, .inl (cI, 8, .inl (ST 0))), (qt1, .inl (cI, 8, .inl (ST 1))), (qt2, .inl (cI, 8, .inl (ST 2))), (qt3, .inl (cI, 8, .inl (ST 3))), (qt4, .inl (cI, 8, .inl (ST 4)))] s.heap := hP
  have hD : va_D A [(zt, .inr (2, [.ref qt0, .ref qt1, .ref qt2, .ref qt3, .ref qt4, .int (ST 5 0), .int (ST 6 0)])), (qt0, .inl (cI, 8, .inl (ST 0))), (qt1, .inl (cI, 8, .inl (ST 1))), (qt2, .inl (cI, 8, .inl (ST 2))), (qt3, .inl (cI, 8, .inl (ST 3))), (qt4, .inl (cI, 8, .inl (ST 4)))] := hD
  refine lv_aload_n hx hb dX3_isFull_0 rfl (lv_at hl 0 rfl) ?_
  refine va_get (D := D) (ci := 2) (v := .int (ST 5 0)) (C := RX3) (T := TX3) (N := 7) hx hb hts i_X3_isFull_X3 hown hK hP 0 rfl rfl 5 (by decide) (hts _ q_X3_isFull_1) (fun _ h9 => h9) rfl dX3_isFull_1 ?_
  refine lv_bipush (v := (8 : Int32)) hx hb dX3_isFull_4 (by decide) ?_
  refine lv_icmp_lt (tgt := 13) hx hb dX3_isFull_6 (by decide) (fun c_1 => ?_) (fun c_1 => ?_)
  · have hf := itT c_1 hf
    refine lv_iconst (v := (0 : Int32)) hx hb dX3_isFull_13 (by decide) ?_
    obtain rfl := Option.some.inj hf
    exact s_zret hx hb hr hlocks hK hP hD hS rfl dX3_isFull_14
  · have hf := itF c_1 hf
    refine lv_iconst (v := (1 : Int32)) hx hb dX3_isFull_9 (by decide) ?_
    refine lv_goto (tgt := 14) hx hb dX3_isFull_10 (by decide) ?_
    obtain rfl := Option.some.inj hf
    exact s_zret hx hb hr hlocks hK hP hD hS rfl dX3_isFull_14
theorem q_X3_isAlive_1 : (Cond.fieldLink RX3 27 "UpWhenDies$Tower" "came" "I" : Cond) ∈ wsX3_isAlive := List.mem_of_getElem? (i := 1) rfl
theorem q_X3_isAlive_2 : (Cond.fieldLink RX3 18 "UpWhenDies$Tower" "floor" "[I" : Cond) ∈ wsX3_isAlive := List.mem_of_getElem? (i := 2) rfl
theorem i_X3_isAlive_X3 : ∀ w ∈ wsX30, w ∈ wsX3_isAlive := fun _ h => (List.mem_cons_of_mem _ (List.mem_append_right _ h))
abbrev rm_X3_isAlive : Room := { frames := 0, cells := 0, slots := 0, locals := 0 }
def f_X3_isAlive (fu : Nat) (ST : S32) (x1 : Int32) : Option (Int32) := (if x1 < (0 : Int32) then some ((0 : Int32)) else (if (8 : Int32) ≤ x1 then some ((0 : Int32)) else (if (ST 5 0) ≤ x1 then some ((0 : Int32)) else (gd x1 8 (if (ST 2 x1.toNatClampNeg) = (-1 : Int32) then some ((0 : Int32)) else some ((1 : Int32)))))))
set_option maxHeartbeats 4000000 in
set_option maxRecDepth 100000 in
theorem c_X3_isAlive (l : Launch) (D : va_G) (cI cJ : ClassId) (fu : Nat) (zt qt0 qt1 qt2 qt3 qt4 : Nat) (ST : S32) (x1 : Int32) (o : Int32) (hf : f_X3_isAlive fu ST x1 = some o) : MI l yX3_isAlive wsX3_isAlive rm_X3_isAlive D vwCl (tyS cI cJ) [.ref zt, .int x1] (wT zt qt0 qt1 qt2 qt3 qt4 cI ST) (wT zt qt0 qt1 qt2 qt3 qt4 cI ST) (o) := by
  intro sz
  refine s_entry (own := RX3) (cc := cX3_isAlive) (maxL := 2) (ret := (some .boolean)) (Qc := fun A => sZi D vwCl (tyS cI cJ) A (wT zt qt0 qt1 qt2 qt3 qt4 cI ST) (o)) rfl (by decide) rfl rfl (Nat.le_of_ble_eq_true rfl) ?_
  intro p e s m args below meth c A C0 hA hP hD hS ls hl
  obtain ⟨hx, hb, hr, hml, hown, hts, hlocks, hK⟩ := id C0
  have hl : lv_has ls 2 [(0, .ref zt), (1, .int x1)] := hl
  have hP : va_P D vwCl [(zt, .inr (2, [.ref qt0, .ref qt1, .ref qt2, .ref qt3, .ref qt4, .int (ST 5 0), .int (ST 6 0)])), (qt0, .inl (cI, 8, .inl (ST 0))), (qt1, .inl (cI, 8, .inl (ST 1))), (qt2, .inl (cI, 8, .inl (ST 2))), (qt3, .inl (cI, 8, .inl (ST 3))), (qt4, .inl (cI, 8, .inl (ST 4)))] s.heap := hP
  have hD : va_D A [(zt, .inr (2, [.ref qt0, .ref qt1, .ref qt2, .ref qt3, .ref qt4, .int (ST 5 0), .int (ST 6 0)])), (qt0, .inl (cI, 8, .inl (ST 0))), (qt1, .inl (cI, 8, .inl (ST 1))), (qt2, .inl (cI, 8, .inl (ST 2))), (qt3, .inl (cI, 8, .inl (ST 3))), (qt4, .inl (cI, 8, .inl (ST 4)))] := hD
  refine lv_iload_n hx hb dX3_isAlive_0 rfl (lv_at hl 1 rfl) ?_
  refine lv_if_lt (tgt := 32) hx hb dX3_isAlive_1 (by decide) (fun c_1 => ?_) (fun c_1 => ?_)
  · have hf := itT c_1 hf
    refine lv_iconst (v := (0 : Int32)) hx hb dX3_isAlive_32 (by decide) ?_
    obtain rfl := Option.some.inj hf
    exact s_zret hx hb hr hlocks hK hP hD hS rfl dX3_isAlive_33
  · have hf := itF c_1 hf
    refine lv_iload_n hx hb dX3_isAlive_4 rfl (lv_at hl 1 rfl) ?_
    refine lv_bipush (v := (8 : Int32)) hx hb dX3_isAlive_5 (by decide) ?_
    refine lv_icmp_ge (tgt := 32) hx hb dX3_isAlive_7 (by decide) (fun c_2 => ?_) (fun c_2 => ?_)
    · have hf := itT c_2 hf
      refine lv_iconst (v := (0 : Int32)) hx hb dX3_isAlive_32 (by decide) ?_
      obtain rfl := Option.some.inj hf
      exact s_zret hx hb hr hlocks hK hP hD hS rfl dX3_isAlive_33
    · have hf := itF c_2 hf
      refine lv_iload_n hx hb dX3_isAlive_10 rfl (lv_at hl 1 rfl) ?_
      refine lv_aload_n hx hb dX3_isAlive_11 rfl (lv_at hl 0 rfl) ?_
      refine va_get (D := D) (ci := 2) (v := .int (ST 5 0)) (C := RX3) (T := TX3) (N := 7) hx hb hts i_X3_isAlive_X3 hown hK hP 0 rfl rfl 5 (by decide) (hts _ q_X3_isAlive_1) (fun _ h9 => h9) rfl dX3_isAlive_12 ?_
      refine lv_icmp_ge (tgt := 32) hx hb dX3_isAlive_15 (by decide) (fun c_3 => ?_) (fun c_3 => ?_)
      · have hf := itT c_3 hf
        refine lv_iconst (v := (0 : Int32)) hx hb dX3_isAlive_32 (by decide) ?_
        obtain rfl := Option.some.inj hf
        exact s_zret hx hb hr hlocks hK hP hD hS rfl dX3_isAlive_33
      · have hf := itF c_3 hf
        refine lv_aload_n hx hb dX3_isAlive_18 rfl (lv_at hl 0 rfl) ?_
        refine va_get (D := D) (ci := 2) (v := .ref qt2) (C := RX3) (T := TX3) (N := 7) hx hb hts i_X3_isAlive_X3 hown hK hP 0 rfl rfl 2 (by decide) (hts _ q_X3_isAlive_2) (fun _ h9 => h9) rfl dX3_isAlive_19 ?_
        refine lv_iload_n hx hb dX3_isAlive_22 rfl (lv_at hl 1 rfl) ?_
        obtain ⟨g_4, hf⟩ := gd_some hf
        refine va_iald hx hb hK hP 3 0 rfl rfl g_4 dX3_isAlive_23 ?_
        refine lv_iconst (v := (-1 : Int32)) hx hb dX3_isAlive_24 (by decide) ?_
        refine lv_icmp_eq (tgt := 32) hx hb dX3_isAlive_25 (by decide) (fun c_5 => ?_) (fun c_5 => ?_)
        · have hf := itT c_5 hf
          refine lv_iconst (v := (0 : Int32)) hx hb dX3_isAlive_32 (by decide) ?_
          obtain rfl := Option.some.inj hf
          exact s_zret hx hb hr hlocks hK hP hD hS rfl dX3_isAlive_33
        · have hf := itF c_5 hf
          refine lv_iconst (v := (1 : Int32)) hx hb dX3_isAlive_28 (by decide) ?_
          refine lv_goto (tgt := 33) hx hb dX3_isAlive_29 (by decide) ?_
          obtain rfl := Option.some.inj hf
          exact s_zret hx hb hr hlocks hK hP hD hS rfl dX3_isAlive_33
abbrev rm_X3_living : Room := { frames := 1, cells := 0, slots := 0, locals := 21 }
def s_X3_living_4 (fu : Nat) (k4 : Int32 → Int32 → Option (Int32)) (ST : S32) (x1 : Int32) (x2 : Int32) : Option (Int32) := (if (8 : Int32) ≤ x2 then some (x1) else (bd (f_X3_isAlive fu ST x2) (fun o_2 => (if o_2 = (0 : Int32) then k4 x1 (x2 + (1 : Int32)) else k4 (x1 ||| ((1 : Int32) <<< (x2 &&& 31))) (x2 + (1 : Int32))))))
def f_X3_living_4 (fu : Nat) (ST : S32) (n : Nat) : Int32 → Int32 → Option (Int32) := itr (fun _ _ => none) (fun k => s_X3_living_4 fu  k ST) n
set_option maxHeartbeats 4000000 in
set_option maxRecDepth 100000 in
theorem ts_X3_living_4 {p : Program} {l : Launch} {e : Env} {s : State} {m : MethodId} {args : Array Value} {below : List Frame} {meth : Method} {c : Code} {D : va_G} {cI cJ : ClassId} {A : Nat → Prop} {fu : Nat} {zt qt0 qt1 qt2 qt3 qt4 : Nat} {ST : S32} {o : Int32} (C0 : Cx RX3 wsX3_living cX3_living 3 (some .int) D vwCl (tyS cI cJ) p s m args meth c) (hA : ∀ q : Nat, s.heap.size ≤ q → A q) {k4 : Int32 → Int32 → Option (Int32)} (K4 : ∀ (x1 : Int32) (x2 : Int32), k4 x1 x2 = some o → ∀ (H : Heap) (locs : List Loc), va_P D vwCl (wT zt qt0 qt1 qt2 qt3 qt4 cI ST) H → va_D A (wT zt qt0 qt1 qt2 qt3 qt4 cI ST) → va_S A s.heap H locs → ∀ (ls : Array Slot), lv_has ls 3 [(0, .ref zt), (1, .int x1), (2, .int x2)] → W p l e rm_X3_living s m args below meth c H locs 0 0 (MQ below (sZi D vwCl (tyS cI cJ) A (wT zt qt0 qt1 qt2 qt3 qt4 cI ST) (o)) args s 0 0 A) (F0 m 4 ls [])) : ∀ (x1 : Int32) (x2 : Int32), s_X3_living_4 fu  k4 ST x1 x2 = some o → ∀ (H : Heap) (locs : List Loc), va_P D vwCl (wT zt qt0 qt1 qt2 qt3 qt4 cI ST) H → va_D A (wT zt qt0 qt1 qt2 qt3 qt4 cI ST) → va_S A s.heap H locs → ∀ (ls : Array Slot), lv_has ls 3 [(0, .ref zt), (1, .int x1), (2, .int x2)] → W p l e rm_X3_living s m args below meth c H locs 0 0 (MQ below (sZi D vwCl (tyS cI cJ) A (wT zt qt0 qt1 qt2 qt3 qt4 cI ST) (o)) args s 0 0 A) (F0 m 4 ls []) := by
  obtain ⟨hx, hb, hr, hml, hown, hts, hlocks, hK⟩ := id C0
  intro x1 x2 hf H locs hP hD hS ls hl
  have hP : va_P D vwCl [(zt, .inr (2, [.ref qt0, .ref qt1, .ref qt2, .ref qt3, .ref qt4, .int (ST 5 0), .int (ST 6 0)])), (qt0, .inl (cI, 8, .inl (ST 0))), (qt1, .inl (cI, 8, .inl (ST 1))), (qt2, .inl (cI, 8, .inl (ST 2))), (qt3, .inl (cI, 8, .inl (ST 3))), (qt4, .inl (cI, 8, .inl (ST 4)))] H := hP
  have hD : va_D A [(zt, .inr (2, [.ref qt0, .ref qt1, .ref qt2, .ref qt3, .ref qt4, .int (ST 5 0), .int (ST 6 0)])), (qt0, .inl (cI, 8, .inl (ST 0))), (qt1, .inl (cI, 8, .inl (ST 1))), (qt2, .inl (cI, 8, .inl (ST 2))), (qt3, .inl (cI, 8, .inl (ST 3))), (qt4, .inl (cI, 8, .inl (ST 4)))] := hD
  refine lv_iload_n hx hb dX3_living_4 rfl (lv_at hl 2 rfl) ?_
  refine lv_bipush (v := (8 : Int32)) hx hb dX3_living_5 (by decide) ?_
  refine lv_icmp_ge (tgt := 30) hx hb dX3_living_7 (by decide) (fun c_1 => ?_) (fun c_1 => ?_)
  · have hf := itT c_1 hf
    refine lv_iload_n hx hb dX3_living_30 rfl (lv_at hl 1 rfl) ?_
    obtain rfl := Option.some.inj hf
    exact s_iret hx hb hr hlocks hK hP hD hS dX3_living_31
  · have hf := itF c_1 hf
    refine lv_aload_n hx hb dX3_living_10 rfl (lv_at hl 0 rfl) ?_
    refine lv_iload_n hx hb dX3_living_11 rfl (lv_at hl 2 rfl) ?_
    obtain ⟨o_2, h_2, hf⟩ := bd_some hf
    refine s_callVI (wc := (wT zt qt0 qt1 qt2 qt3 qt4 cI ST)) (wr := []) (wc' := (wT zt qt0 qt1 qt2 qt3 qt4 cI ST)) (w' := [(zt, .inr (2, [.ref qt0, .ref qt1, .ref qt2, .ref qt3, .ref qt4, .int (ST 5 0), .int (ST 6 0)])), (qt0, .inl (cI, 8, .inl (ST 0))), (qt1, .inl (cI, 8, .inl (ST 1))), (qt2, .inl (cI, 8, .inl (ST 2))), (qt3, .inl (cI, 8, .inl (ST 3))), (qt4, .inl (cI, 8, .inl (ST 4)))]) (isC := [0, 1, 2, 3, 4, 5]) (isR := []) (perm := [0, 1, 2, 3, 4, 5]) (As := [.int x2]) (rest := []) (ci := 2) (q := (RX3, TX3, 7)) ⟨hx, hb, hml, hown, hts⟩ (c_X3_isAlive l D cI cJ fu zt qt0 qt1 qt2 qt3 qt4 ST x2 o_2 h_2) (cwV 1 hts gX3_living_X3_isAlive rfl rfl rfl (by decide +kernel) ⟨Nat.le_of_ble_eq_true rfl, Nat.le_of_ble_eq_true rfl⟩) hK hP hD hS hA ⟨rfl, rfl, by decide, by decide, by decide, by decide, rfl⟩ rfl rfl rfl rfl hl.1 rfl (Nat.le_of_ble_eq_true rfl) dX3_living_12 (fun H locs hP hD hS => ?_)
    refine lv_if_eq (tgt := 24) hx hb dX3_living_15 (by decide) (fun c_3 => ?_) (fun c_3 => ?_)
    · have hf := itT c_3 hf
      refine lv_iinc (v := (x2 + (1 : Int32))) (lv' := [(2, .int (x2 + (1 : Int32))), (0, .ref zt), (1, .int x1)]) hx hb dX3_living_24 hl (k := 2) rfl rfl (by decide) rfl (fun ls hl => ?_)
      refine lv_goto (tgt := 4) hx hb dX3_living_27 (by decide) ?_
      exact K4 _ _ hf _ _ hP hD hS _ (lv_sub hl [1, 2, 0] rfl)
    · have hf := itF c_3 hf
      refine lv_iload_n hx hb dX3_living_18 rfl (lv_at hl 1 rfl) ?_
      refine lv_iconst (v := (1 : Int32)) hx hb dX3_living_19 (by decide) ?_
      refine lv_iload_n hx hb dX3_living_20 rfl (lv_at hl 2 rfl) ?_
      refine lv_ishl hx hb dX3_living_21 ?_
      refine lv_ior hx hb dX3_living_22 ?_
      refine lv_istore_n (lv' := [(1, .int (x1 ||| ((1 : Int32) <<< (x2 &&& 31)))), (0, .ref zt), (2, .int x2)]) hx hb dX3_living_23 rfl hl (by decide) rfl (fun ls hl => ?_)
      refine lv_iinc (v := (x2 + (1 : Int32))) (lv' := [(2, .int (x2 + (1 : Int32))), (1, .int (x1 ||| ((1 : Int32) <<< (x2 &&& 31)))), (0, .ref zt)]) hx hb dX3_living_24 hl (k := 2) rfl rfl (by decide) rfl (fun ls hl => ?_)
      refine lv_goto (tgt := 4) hx hb dX3_living_27 (by decide) ?_
      exact K4 _ _ hf _ _ hP hD hS _ (lv_sub hl [2, 1, 0] rfl)
theorem t_X3_living_4 {p : Program} {l : Launch} {e : Env} {s : State} {m : MethodId} {args : Array Value} {below : List Frame} {meth : Method} {c : Code} {D : va_G} {cI cJ : ClassId} {A : Nat → Prop} {fu : Nat} {zt qt0 qt1 qt2 qt3 qt4 : Nat} {ST : S32} {o : Int32} (C0 : Cx RX3 wsX3_living cX3_living 3 (some .int) D vwCl (tyS cI cJ) p s m args meth c) (hA : ∀ q : Nat, s.heap.size ≤ q → A q) : ∀ (n : Nat) (x1 : Int32) (x2 : Int32), f_X3_living_4 fu  ST n x1 x2 = some o → ∀ (H : Heap) (locs : List Loc), va_P D vwCl (wT zt qt0 qt1 qt2 qt3 qt4 cI ST) H → va_D A (wT zt qt0 qt1 qt2 qt3 qt4 cI ST) → va_S A s.heap H locs → ∀ (ls : Array Slot), lv_has ls 3 [(0, .ref zt), (1, .int x1), (2, .int x2)] → W p l e rm_X3_living s m args below meth c H locs 0 0 (MQ below (sZi D vwCl (tyS cI cJ) A (wT zt qt0 qt1 qt2 qt3 qt4 cI ST) (o)) args s 0 0 A) (F0 m 4 ls []) := by
  intro n
  induction n with
  | zero =>
    intro x1 x2 hf
    have hf : (none : Option (Int32)) = some o := hf
    cases hf
  | succ n ih => exact ts_X3_living_4 (k4 := f_X3_living_4 fu  ST n) C0 hA  ih
def f_X3_living (fu : Nat) (ST : S32) : Option (Int32) := f_X3_living_4 fu ST fu (0 : Int32) (0 : Int32)
set_option maxHeartbeats 4000000 in
set_option maxRecDepth 100000 in
theorem c_X3_living (l : Launch) (D : va_G) (cI cJ : ClassId) (fu : Nat) (zt qt0 qt1 qt2 qt3 qt4 : Nat) (ST : S32) (o : Int32) (hf : f_X3_living fu ST = some o) : MI l yX3_living wsX3_living rm_X3_living D vwCl (tyS cI cJ) [.ref zt] (wT zt qt0 qt1 qt2 qt3 qt4 cI ST) (wT zt qt0 qt1 qt2 qt3 qt4 cI ST) (o) := by
  intro sz
  refine s_entry (own := RX3) (cc := cX3_living) (maxL := 3) (ret := (some .int)) (Qc := fun A => sZi D vwCl (tyS cI cJ) A (wT zt qt0 qt1 qt2 qt3 qt4 cI ST) (o)) rfl (by decide) rfl rfl (Nat.le_of_ble_eq_true rfl) ?_
  intro p e s m args below meth c A C0 hA hP hD hS ls hl
  obtain ⟨hx, hb, hr, hml, hown, hts, hlocks, hK⟩ := id C0
  have hl : lv_has ls 3 [(0, .ref zt)] := hl
  have hP : va_P D vwCl [(zt, .inr (2, [.ref qt0, .ref qt1, .ref qt2, .ref qt3, .ref qt4, .int (ST 5 0), .int (ST 6 0)])), (qt0, .inl (cI, 8, .inl (ST 0))), (qt1, .inl (cI, 8, .inl (ST 1))), (qt2, .inl (cI, 8, .inl (ST 2))), (qt3, .inl (cI, 8, .inl (ST 3))), (qt4, .inl (cI, 8, .inl (ST 4)))] s.heap := hP
  have hD : va_D A [(zt, .inr (2, [.ref qt0, .ref qt1, .ref qt2, .ref qt3, .ref qt4, .int (ST 5 0), .int (ST 6 0)])), (qt0, .inl (cI, 8, .inl (ST 0))), (qt1, .inl (cI, 8, .inl (ST 1))), (qt2, .inl (cI, 8, .inl (ST 2))), (qt3, .inl (cI, 8, .inl (ST 3))), (qt4, .inl (cI, 8, .inl (ST 4)))] := hD
  refine lv_iconst (v := (0 : Int32)) hx hb dX3_living_0 (by decide) ?_
  refine lv_istore_n (lv' := [(1, .int (0 : Int32)), (0, .ref zt)]) hx hb dX3_living_1 rfl hl (by decide) rfl (fun ls hl => ?_)
  refine lv_iconst (v := (0 : Int32)) hx hb dX3_living_2 (by decide) ?_
  refine lv_istore_n (lv' := [(2, .int (0 : Int32)), (1, .int (0 : Int32)), (0, .ref zt)]) hx hb dX3_living_3 rfl hl (by decide) rfl (fun ls hl => ?_)
  exact t_X3_living_4 C0 hA  fu _ _ hf _ _ hP hD hS _ (lv_sub hl [2, 1, 0] rfl)
abbrev rm_X3_areAlive : Room := { frames := 2, cells := 0, slots := 0, locals := 43 }
def f_X3_areAlive (fu : Nat) (ST : S32) (x1 : Int32) : Option (Int32) := (bd (f_X3_living fu ST) (fun o_1 => (if (x1 &&& (o_1 ^^^ (-1 : Int32))) = (0 : Int32) then some ((1 : Int32)) else some ((0 : Int32)))))
set_option maxHeartbeats 4000000 in
set_option maxRecDepth 100000 in
theorem c_X3_areAlive (l : Launch) (D : va_G) (cI cJ : ClassId) (fu : Nat) (zt qt0 qt1 qt2 qt3 qt4 : Nat) (ST : S32) (x1 : Int32) (o : Int32) (hf : f_X3_areAlive fu ST x1 = some o) : MI l yX3_areAlive wsX3_areAlive rm_X3_areAlive D vwCl (tyS cI cJ) [.ref zt, .int x1] (wT zt qt0 qt1 qt2 qt3 qt4 cI ST) (wT zt qt0 qt1 qt2 qt3 qt4 cI ST) (o) := by
  intro sz
  refine s_entry (own := RX3) (cc := cX3_areAlive) (maxL := 2) (ret := (some .boolean)) (Qc := fun A => sZi D vwCl (tyS cI cJ) A (wT zt qt0 qt1 qt2 qt3 qt4 cI ST) (o)) rfl (by decide) rfl rfl (Nat.le_of_ble_eq_true rfl) ?_
  intro p e s m args below meth c A C0 hA hP hD hS ls hl
  obtain ⟨hx, hb, hr, hml, hown, hts, hlocks, hK⟩ := id C0
  have hl : lv_has ls 2 [(0, .ref zt), (1, .int x1)] := hl
  have hP : va_P D vwCl [(zt, .inr (2, [.ref qt0, .ref qt1, .ref qt2, .ref qt3, .ref qt4, .int (ST 5 0), .int (ST 6 0)])), (qt0, .inl (cI, 8, .inl (ST 0))), (qt1, .inl (cI, 8, .inl (ST 1))), (qt2, .inl (cI, 8, .inl (ST 2))), (qt3, .inl (cI, 8, .inl (ST 3))), (qt4, .inl (cI, 8, .inl (ST 4)))] s.heap := hP
  have hD : va_D A [(zt, .inr (2, [.ref qt0, .ref qt1, .ref qt2, .ref qt3, .ref qt4, .int (ST 5 0), .int (ST 6 0)])), (qt0, .inl (cI, 8, .inl (ST 0))), (qt1, .inl (cI, 8, .inl (ST 1))), (qt2, .inl (cI, 8, .inl (ST 2))), (qt3, .inl (cI, 8, .inl (ST 3))), (qt4, .inl (cI, 8, .inl (ST 4)))] := hD
  refine lv_iload_n hx hb dX3_areAlive_0 rfl (lv_at hl 1 rfl) ?_
  refine lv_aload_n hx hb dX3_areAlive_1 rfl (lv_at hl 0 rfl) ?_
  obtain ⟨o_1, h_1, hf⟩ := bd_some hf
  refine s_callVI (wc := (wT zt qt0 qt1 qt2 qt3 qt4 cI ST)) (wr := []) (wc' := (wT zt qt0 qt1 qt2 qt3 qt4 cI ST)) (w' := [(zt, .inr (2, [.ref qt0, .ref qt1, .ref qt2, .ref qt3, .ref qt4, .int (ST 5 0), .int (ST 6 0)])), (qt0, .inl (cI, 8, .inl (ST 0))), (qt1, .inl (cI, 8, .inl (ST 1))), (qt2, .inl (cI, 8, .inl (ST 2))), (qt3, .inl (cI, 8, .inl (ST 3))), (qt4, .inl (cI, 8, .inl (ST 4)))]) (isC := [0, 1, 2, 3, 4, 5]) (isR := []) (perm := [0, 1, 2, 3, 4, 5]) (As := []) (rest := [.int x1]) (ci := 2) (q := (RX3, TX3, 7)) ⟨hx, hb, hml, hown, hts⟩ (c_X3_living l D cI cJ fu zt qt0 qt1 qt2 qt3 qt4 ST o_1 h_1) (cwV 0 hts gX3_areAlive_X3_living rfl rfl rfl (by decide +kernel) ⟨Nat.le_of_ble_eq_true rfl, Nat.le_of_ble_eq_true rfl⟩) hK hP hD hS hA ⟨rfl, rfl, by decide, by decide, by decide, by decide, rfl⟩ rfl rfl rfl rfl hl.1 rfl (Nat.le_of_ble_eq_true rfl) dX3_areAlive_2 (fun H locs hP hD hS => ?_)
  refine lv_iconst (v := (-1 : Int32)) hx hb dX3_areAlive_5 (by decide) ?_
  refine lv_ixor hx hb dX3_areAlive_6 ?_
  refine lv_iand hx hb dX3_areAlive_7 ?_
  refine lv_if_ne (tgt := 15) hx hb dX3_areAlive_8 (by decide) (fun c_2 => ?_) (fun c_2 => ?_)
  · have hf := itF c_2 hf
    refine lv_iconst (v := (0 : Int32)) hx hb dX3_areAlive_15 (by decide) ?_
    obtain rfl := Option.some.inj hf
    exact s_zret hx hb hr hlocks hK hP hD hS rfl dX3_areAlive_16
  · have hf := itT c_2 hf
    refine lv_iconst (v := (1 : Int32)) hx hb dX3_areAlive_11 (by decide) ?_
    refine lv_goto (tgt := 16) hx hb dX3_areAlive_12 (by decide) ?_
    obtain rfl := Option.some.inj hf
    exact s_zret hx hb hr hlocks hK hP hD hS rfl dX3_areAlive_16
theorem q_X3_wishTold_1 : (Cond.fieldLink RX3 24 "UpWhenDies$Tower" "wished" "[I" : Cond) ∈ wsX3_wishTold := List.mem_of_getElem? (i := 1) rfl
theorem i_X3_wishTold_X3 : ∀ w ∈ wsX30, w ∈ wsX3_wishTold := fun _ h => (List.mem_cons_of_mem _ (List.mem_append_right _ h))
abbrev rm_X3_wishTold : Room := { frames := 0, cells := 0, slots := 0, locals := 0 }
def f_X3_wishTold (fu : Nat) (ST : S32) (x1 : Int32) : Option (Int32) := (gd x1 8 (if (ST 4 x1.toNatClampNeg) = (-1 : Int32) then some ((-9 : Int32)) else (gd x1 8 some ((ST 4 x1.toNatClampNeg)))))
set_option maxHeartbeats 4000000 in
set_option maxRecDepth 100000 in
theorem c_X3_wishTold (l : Launch) (D : va_G) (cI cJ : ClassId) (fu : Nat) (zt qt0 qt1 qt2 qt3 qt4 : Nat) (ST : S32) (x1 : Int32) (o : Int32) (hf : f_X3_wishTold fu ST x1 = some o) : MI l yX3_wishTold wsX3_wishTold rm_X3_wishTold D vwCl (tyS cI cJ) [.ref zt, .int x1] (wT zt qt0 qt1 qt2 qt3 qt4 cI ST) (wT zt qt0 qt1 qt2 qt3 qt4 cI ST) (o) := by
  intro sz
  refine s_entry (own := RX3) (cc := cX3_wishTold) (maxL := 2) (ret := (some .int)) (Qc := fun A => sZi D vwCl (tyS cI cJ) A (wT zt qt0 qt1 qt2 qt3 qt4 cI ST) (o)) rfl (by decide) rfl rfl (Nat.le_of_ble_eq_true rfl) ?_
  intro p e s m args below meth c A C0 hA hP hD hS ls hl
  obtain ⟨hx, hb, hr, hml, hown, hts, hlocks, hK⟩ := id C0
  have hl : lv_has ls 2 [(0, .ref zt), (1, .int x1)] := hl
  have hP : va_P D vwCl [(zt, .inr (2, [.ref qt0, .ref qt1, .ref qt2, .ref qt3, .ref qt4, .int (ST 5 0), .int (ST 6 0)])), (qt0, .inl (cI, 8, .inl (ST 0))), (qt1, .inl (cI, 8, .inl (ST 1))), (qt2, .inl (cI, 8, .inl (ST 2))), (qt3, .inl (cI, 8, .inl (ST 3))), (qt4, .inl (cI, 8, .inl (ST 4)))] s.heap := hP
  have hD : va_D A [(zt, .inr (2, [.ref qt0, .ref qt1, .ref qt2, .ref qt3, .ref qt4, .int (ST 5 0), .int (ST 6 0)])), (qt0, .inl (cI, 8, .inl (ST 0))), (qt1, .inl (cI, 8, .inl (ST 1))), (qt2, .inl (cI, 8, .inl (ST 2))), (qt3, .inl (cI, 8, .inl (ST 3))), (qt4, .inl (cI, 8, .inl (ST 4)))] := hD
  refine lv_aload_n hx hb dX3_wishTold_0 rfl (lv_at hl 0 rfl) ?_
  refine va_get (D := D) (ci := 2) (v := .ref qt4) (C := RX3) (T := TX3) (N := 7) hx hb hts i_X3_wishTold_X3 hown hK hP 0 rfl rfl 4 (by decide) (hts _ q_X3_wishTold_1) (fun _ h9 => h9) rfl dX3_wishTold_1 ?_
  refine lv_iload_n hx hb dX3_wishTold_4 rfl (lv_at hl 1 rfl) ?_
  obtain ⟨g_1, hf⟩ := gd_some hf
  refine va_iald hx hb hK hP 5 0 rfl rfl g_1 dX3_wishTold_5 ?_
  refine lv_iconst (v := (-1 : Int32)) hx hb dX3_wishTold_6 (by decide) ?_
  refine lv_icmp_ne (tgt := 15) hx hb dX3_wishTold_7 (by decide) (fun c_2 => ?_) (fun c_2 => ?_)
  · have hf := itF c_2 hf
    refine lv_aload_n hx hb dX3_wishTold_15 rfl (lv_at hl 0 rfl) ?_
    refine va_get (D := D) (ci := 2) (v := .ref qt4) (C := RX3) (T := TX3) (N := 7) hx hb hts i_X3_wishTold_X3 hown hK hP 0 rfl rfl 4 (by decide) (hts _ q_X3_wishTold_1) (fun _ h9 => h9) rfl dX3_wishTold_16 ?_
    refine lv_iload_n hx hb dX3_wishTold_19 rfl (lv_at hl 1 rfl) ?_
    obtain ⟨g_3, hf⟩ := gd_some hf
    refine va_iald hx hb hK hP 5 0 rfl rfl g_3 dX3_wishTold_20 ?_
    obtain rfl := Option.some.inj hf
    exact s_iret hx hb hr hlocks hK hP hD hS dX3_wishTold_21
  · have hf := itT c_2 hf
    refine lv_bipush (v := (-9 : Int32)) hx hb dX3_wishTold_10 (by decide) ?_
    refine lv_goto (tgt := 21) hx hb dX3_wishTold_12 (by decide) ?_
    obtain rfl := Option.some.inj hf
    exact s_iret hx hb hr hlocks hK hP hD hS dX3_wishTold_21
end
