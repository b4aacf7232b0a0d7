/-! likely: the class's side -/
def sv (A : AB) (j : Nat) : Nat → Nat
  | 0 => 1
  | n + 1 => sv A j n * (10 - chn (A 0 j) (min 99 (A 1 j + n)))
theorem ten_sub {c : Nat} (h : c ≤ 10) : ((10 : Int32) - nI c).toInt64 = lN (10 - c) := by
  rw [show (10 : Int32) = nI 10 from rfl, pk_sub h, nI_l (by omega)]
theorem c_surv {T : S32} {A : AB} (hA : OKA A) (hC : CT T A) (fu : Nat) (hfu : 1000 ≤ fu) {j n : Nat} (h : al A j = true) (hn : n ≤ 2) : f_X1_survival fu T (nI j) (nI n) = some (lN (sv A j n)) := by
  refine itr_for (fun _ _ _ _ => none) (fun k => s_X1_survival_5 fu k T) (fun y k => k (nI j) (nI n) (lN (sv A j y)) (nI y)) (fun _ => some (lN (sv A j n))) n (fun _ => True) (fun k _ => ?_) (fun k y hy _ hk => ?_) fu 0 (by omega) (by omega) trivial
  · show s_X1_survival_5 fu k T _ _ _ _ = _
    unfold s_X1_survival_5
    rw [if_pos (nI_le (Nat.le_refl n) (by omega))]
  · show s_X1_survival_5 fu k T _ _ _ _ = _
    obtain ⟨b0, b1, -⟩ := hA.2.1 j h
    unfold s_X1_survival_5
    rw [if_neg (nI_ge hy (by omega)), c_ch hA hC fu h (by omega)]
    simp only [bd]
    rw [ten_sub (chn_le _ (by omega) _ (by omega)), lN_mul, nI_1]
    exact hk trivial
theorem uL_s {f : Nat → Int64} {k : Nat} {x : Int64} : vp_updL f k x k = x := pk_uLs
theorem uL_n {f : Nat → Int64} {k j : Nat} {x : Int64} (h : j ≠ k) : vp_updL f k x j = f j := pk_uLn h
def PO (SO : S64) (P : Nat → Nat) (b : Nat) : Prop := (∀ d, d ≤ 8 → SO 0 d = lN (P d)) ∧ SO 2 0 = lN b
theorem c_clear (fu : Nat) (hfu : 1000 ≤ fu) (SO : S64) : ∃ S2 : S64, f_X1_clear fu SO = some S2 ∧ PO S2 (fun d => if d = 0 then 1 else 0) 1 := by
  have loop : ∀ (m j : Nat) (U : S64), j ≤ 9 → 9 < m + j → (∀ d, d < j → U 0 d = lN 0) → ∃ S2 : S64, f_X1_clear_2 fu m (nI j) U = some S2 ∧ PO S2 (fun d => if d = 0 then 1 else 0) 1 := by
    intro m
    induction m with
    | zero => intro j U h1 h2; exact absurd h2 (by omega)
    | succ m ih =>
      intro j U h1 h2 hU
      show ∃ S2 : S64, s_X1_clear_2 fu (f_X1_clear_2 fu m) _ U = some S2 ∧ PO S2 (fun d => if d = 0 then 1 else 0) 1
      unfold s_X1_clear_2 f_X1_clear_21
      rcases Nat.lt_or_ge j 9 with hj | hj
      · rw [if_neg (show ¬ (8 : Int32) < nI j from fun w => by have := (nI_ltI (a := 8) (by omega) (by omega)).mp w; omega), gd_in hj (by omega), nI_clamp (by omega), nI_1]
        refine ih (j + 1) _ (by omega) (by omega) (fun d hd => ?_)
        show vp_updL (U 0) j 0 d = lN 0
        by_cases q : d = j
        · subst q; exact uL_s
        · rw [uL_n q]; exact hU d (by omega)
      · obtain rfl : j = 9 := by omega
        rw [if_pos (show (8 : Int32) < nI 9 by decide), show gd (0 : Int32) 9 _ = _ from gd_in (j := 0) (by omega) (by omega)]
        refine ⟨_, rfl, fun d hd => ?_, rfl⟩
        show vp_updL (U 0) 0 1 d = _
        by_cases q : d = 0
        · subst q; exact uL_s
        · rw [uL_n q]
          show U 0 d = lN (if d = 0 then 1 else 0)
          rw [if_neg q]; exact hU d (by omega)
  exact loop fu 0 SO (by omega) (by omega) (fun d hd => absurd hd (by omega))
def padd (P : Nat → Nat) (l e : Nat) (d : Nat) : Nat := if d = 0 then P 0 * l else P d * l + P (d - 1) * (e - l)
theorem c_addOne (fu : Nat) (hfu : 1000 ≤ fu) {SO : S64} {P : Nat → Nat} {b l e : Nat} (hle : l ≤ e) (h : PO SO P b) : ∃ S2 : S64, f_X1_addOneAbove fu SO (lN l) (lN e) = some S2 ∧ PO S2 (padd P l e) (b * e) := by
  have loop : ∀ (m j : Nat) (U : S64), j ≤ 8 → j < m → (∀ d, d ≤ 8 → U 0 d = if j < d then lN (padd P l e d) else lN (P d)) → U 2 0 = lN b → ∃ S2 : S64, f_X1_addOneAbove_4 fu m (lN l) (lN e) (nI j) U = some S2 ∧ PO S2 (padd P l e) (b * e) := by
    intro m
    induction m with
    | zero => intro j U h1 h2; exact absurd h2 (by omega)
    | succ m ih =>
      intro j U h1 h2 hU h20
      show ∃ S2 : S64, s_X1_addOneAbove_4 fu (f_X1_addOneAbove_4 fu m) _ _ _ U = some S2 ∧ PO S2 (padd P l e) (b * e)
      unfold s_X1_addOneAbove_4 f_X1_addOneAbove_45
      rcases Nat.eq_zero_or_pos j with hj | hj
      · subst hj
        rw [if_pos (show nI 0 ≤ (0 : Int32) by decide)]
        simp only [show ∀ k : Option S64, gd (0 : Int32) 9 k = k from fun k => gd_in (j := 0) (by omega) (by omega)]
        refine ⟨_, rfl, fun d hd => ?_, ?_⟩
        · show vp_updL (U 0) 0 (U 0 0 * lN l) d = lN (padd P l e d)
          by_cases q : d = 0
          · subst q
            rw [uL_s, hU 0 (by omega), if_neg (by omega), lN_mul]; rfl
          · rw [uL_n q, hU d hd, if_pos (by omega)]
        · show U 2 0 * lN e = lN (b * e)
          rw [h20, lN_mul]
      · obtain ⟨i, rfl⟩ : ∃ i, j = i + 1 := ⟨j - 1, by omega⟩
        rw [if_neg (nI_nle (by omega) (by omega)), nI_pred, pk_m1]
        simp only [gd_in (show i + 1 < 9 by omega) (show 9 < 2 ^ 31 by omega), gd_in (show i < 9 by omega) (show 9 < 2 ^ 31 by omega), nI_clamp (show i + 1 < 2 ^ 31 by omega), nI_clamp (show i < 2 ^ 31 by omega)]
        refine ih i _ (by omega) (by omega) (fun d hd => ?_) h20
        show vp_updL (U 0) (i + 1) (U 0 (i + 1) * lN l + U 0 i * (lN e - lN l)) d = _
        by_cases q : d = i + 1
        · subst q
          rw [uL_s, hU _ hd, hU i (by omega), if_neg (by omega), if_neg (by omega), if_pos (by omega), lN_sub hle, lN_mul, lN_mul, lN_add]
          unfold padd
          rw [if_neg (by omega), show i + 1 - 1 = i by omega]
        · rw [uL_n q, hU d hd]
          by_cases q2 : i + 1 < d
          · rw [if_pos q2, if_pos (by omega)]
          · rw [if_neg q2, if_neg (by omega)]
  exact loop fu 8 SO (by omega) (by omega) (fun d hd => by rw [if_neg (by omega)]; exact h.1 d hd) h.2
def tl (P : Nat → Nat) (m n : Nat) : Nat := fb_sm (fun d => if m ≤ d then P d else 0) n
theorem c_atLeast (fu : Nat) (hfu : 1000 ≤ fu) {SO : S64} {P : Nat → Nat} {b m : Nat} (h : PO SO P b) (hm : m ≤ 9) : f_X1_atLeast fu SO (nI m) = some (lN (tl P m 9)) := by
  have z : ∀ j, j ≤ m → tl P m j = 0 := by
    intro j hj
    unfold tl
    rw [show fb_sm (fun d => if m ≤ d then P d else 0) j = fb_sm (fun _ => 0) j from fb_sm_cong (fun d hd => if_neg (by omega)), fb_sm_const]
    omega
  have e0 : (0 : Int64) = lN (tl P m m) := by rw [z m (Nat.le_refl m)]; rfl
  unfold f_X1_atLeast
  rw [e0]
  refine itr_for (fun _ _ => none) (fun k => s_X1_atLeast_5 fu k SO) (fun j k => k (lN (tl P m j)) (nI j)) (fun _ => some (lN (tl P m 9))) 9 (fun j => m ≤ j) (fun k _ => ?_) (fun k j hj hP hk => ?_) fu m (by omega) (by omega) (Nat.le_refl m)
  · show s_X1_atLeast_5 fu k SO _ _ = _
    unfold s_X1_atLeast_5
    rw [if_neg (nI_nn (by omega)), if_pos (show (8 : Int32) < nI 9 by decide)]
  · show s_X1_atLeast_5 fu k SO _ _ = _
    unfold s_X1_atLeast_5
    rw [if_neg (nI_nn (by omega)), if_neg (show ¬ (8 : Int32) < nI j from fun w => by have := (nI_ltI (a := 8) (by omega) (by omega)).mp w; omega), gd_in hj (by omega), nI_clamp (by omega), h.1 j (by omega), lN_add, nI_1]
    have hk := hk (by omega)
    rw [show tl P m (j + 1) = tl P m j + P j by unfold tl; rw [fb_sm_succ, if_pos hP]] at hk
    exact hk
theorem lN_z {a : Nat} (h : a < 2 ^ 63) : lN a = (0 : Int64) ↔ a = 0 := by
  rw [show (0 : Int64) = lN 0 from rfl]; exact pk_lEQ h (by omega)
/-- shortening always returns -/
theorem c_short_any (fu : Nat) (hfu : 1000 ≤ fu) (SO : S64) : ∃ S2 : S64, f_X1_shorten fu SO = some S2 := by
  have e43 : ∀ a (S : S64), ∃ S2 : S64, f_X1_shorten_43 fu a S = some S2 := by
    intro a S
    unfold f_X1_shorten_43
    by_cases q : lg_cmp a (1 : Int64) ≤ (0 : Int32)
    · rw [if_pos q]; exact ⟨_, rfl⟩
    · rw [if_neg q]
      have ha : ¬ a = 0 := by
        intro w
        subst w
        exact q ((lg_cmp_le _ _).mpr (by decide))
      unfold zl
      rw [if_neg ha, if_neg ha]
      exact ⟨_, rfl⟩
  have loop : ∀ (m j : Nat) (a b : Int64) (S : S64), j ≤ 200 → 200 < m + j → ∃ S2 : S64, f_X1_shorten_13 fu m a b (nI j) S = some S2 := by
    intro m
    induction m with
    | zero => intro j a b S h1 h2; exact absurd h2 (by omega)
    | succ m ih =>
      intro j a b S h1 h2
      show ∃ S2 : S64, s_X1_shorten_13 fu (f_X1_shorten_13 fu m) a b (nI j) S = some S2
      unfold s_X1_shorten_13
      by_cases q : j = 200
      · subst q
        rw [if_pos (show (200 : Int32) ≤ nI 200 by decide)]; exact e43 a S
      · rw [if_neg (show ¬ (200 : Int32) ≤ nI j from fun w => by have := (nI_leI (a := 200) (by omega) (by omega)).mp w; omega)]
        by_cases q2 : lg_cmp b (0 : Int64) = (0 : Int32)
        · rw [if_pos q2]; exact e43 a S
        · rw [if_neg q2]
          unfold zl
          rw [if_neg (fun w => q2 ((lg_cmp_eq _ _).mpr w)), nI_1]
          exact ih (j + 1) _ _ S (by omega) (by omega)
  exact loop fu 0 _ _ SO (by omega) (by omega)
/-- the numbers behind all above have been added -/
def pa (A : AB) (i n : Nat) : Nat → Nat → Nat
  | 0 => fun d => if d = 0 then 1 else 0
  | j + 1 => if al A j = true ∧ A 2 i < A 2 j then padd (pa A i n j) (sv A j n) (10 ^ n) else pa A i n j
def pb (A : AB) (i n : Nat) : Nat → Nat
  | 0 => 1
  | j + 1 => if al A j = true ∧ A 2 i < A 2 j then pb A i n j * 10 ^ n else pb A i n j
theorem sv_le {A : AB} (j : Nat) : ∀ n, sv A j n ≤ 10 ^ n
  | 0 => Nat.le_refl 1
  | n + 1 => by
    rw [Nat.pow_succ]
    exact Nat.mul_le_mul (sv_le j n) (Nat.sub_le _ _)
/-- above and below, before they are shortened -/
def upA (A : AB) (i f n : Nat) : Nat := (if A 2 i < f ∧ A 0 i = 3 ∧ A 2 i = 0 then 0 else tl (pa A i n 8) (f - A 2 i) 9) * sv A i n
def upB (A : AB) (i n : Nat) : Nat := pb A i n 8 * 10 ^ n
theorem c_reckon {T : S32} {A : AB} (hA : OKA A) (hC : CT T A) (fu : Nat) (hfu : 1000 ≤ fu) (SO : S64) {i f n : Nat} (hi : al A i = true) (hf : f ≤ 9) (hn : n = 1 ∨ n = 2) : ∃ S : S64, f_X1_reckon fu SO T (nI i) (nI f) (nI n) = f_X1_shorten fu S ∧ S 1 0 = lN (upA A i f n) ∧ S 2 0 = lN (upB A i n) := by
  have hi8 := al_lt8 hA hi
  have hfi := (hA.2.1 i hi).2.2.1
  have ebd : ∀ x : Option S64, bd x (fun o => some o) = x := fun x => by cases x <;> rfl
  have e114 : ∀ (y1 : Nat) (S : S64), S 2 0 = lN (pb A i n 8) → ∃ S' : S64, f_X1_reckon_114 fu T (nI i) (nI n) (lN (10 ^ n)) (lN y1) S = f_X1_shorten fu S' ∧ S' 1 0 = lN (y1 * sv A i n) ∧ S' 2 0 = lN (upB A i n) := by
    intro y1 S h2
    refine ⟨sa (sa S 1 (fun _ => lN y1 * lN (sv A i n))) 2 (fun _ => S 2 0 * lN (10 ^ n)), ?_, ?_, ?_⟩
    · unfold f_X1_reckon_114
      rw [c_surv hA hC fu hfu hi (by omega)]
      simp only [bd]
      exact ebd _
    · show lN y1 * lN (sv A i n) = _
      rw [lN_mul]
    · show S 2 0 * lN (10 ^ n) = _
      rw [h2, lN_mul]; rfl
  have e76 : ∀ S : S64, PO S (pa A i n 8) (pb A i n 8) → ∃ S' : S64, f_X1_reckon_76 fu T (nI i) (nI f) (nI n) (lN (10 ^ n)) S = f_X1_shorten fu S' ∧ S' 1 0 = lN (upA A i f n) ∧ S' 2 0 = lN (upB A i n) := by
    intro S hS
    unfold f_X1_reckon_76 lt f_X1_reckon_108
    rw [gd_in hi8 (by omega), nI_clamp (by omega), (hC.2.2 i (al_lt hi)).1, fI, if_pos hi]
    by_cases q : A 2 i < f
    · rw [pk_sub (show A 2 i ≤ f by omega), if_pos (show (0 : Int32) < nI (f - A 2 i) from (nI_ltI (a := 0) (by omega) (by omega)).mpr (by omega))]
      simp only []
      rw [if_neg (nI_nle (by omega) (by omega)), c_down hA hC fu hi]
      simp only [bd]
      by_cases q2 : A 0 i = 3 ∧ A 2 i = 0
      · rw [if_pos q2, if_neg n10]
        obtain ⟨S', g1, g2, g3⟩ := e114 0 S hS.2
        exact ⟨S', g1, by rw [g2]; unfold upA; rw [if_pos ⟨q, q2⟩], g3⟩
      · rw [if_neg q2, if_pos rfl, c_atLeast fu hfu hS (by omega)]
        obtain ⟨S', g1, g2, g3⟩ := e114 (tl (pa A i n 8) (f - A 2 i) 9) S hS.2
        exact ⟨S', g1, by rw [g2]; unfold upA; rw [if_neg (fun w => q2 w.2)], g3⟩
    · have ht := pk_sub_toInt (a := f) (b := A 2 i) (by omega) (by omega)
      rw [if_neg (fun w => by
        have w := (fa_lt _ _).mp w
        rw [ht] at w
        have : (0 : Int32).toInt = 0 := rfl
        omega)]
      simp only []
      rw [if_pos (show (0 : Int32) ≤ 0 by decide), show f_X1_atLeast fu S (0 : Int32) = _ from c_atLeast fu hfu hS (m := 0) (by omega)]
      simp only [bd]
      obtain ⟨S', g1, g2, g3⟩ := e114 (tl (pa A i n 8) 0 9) S hS.2
      exact ⟨S', g1, by rw [g2]; unfold upA; rw [if_neg (fun w => q w.1), show f - A 2 i = 0 by omega], g3⟩
  have loop : ∀ (m j : Nat) (S : S64), j ≤ 8 → 8 < m + j → PO S (pa A i n j) (pb A i n j) → ∃ S' : S64, f_X1_reckon_24 fu T m (nI i) (nI f) (nI n) (lN (10 ^ n)) (nI j) S = f_X1_shorten fu S' ∧ S' 1 0 = lN (upA A i f n) ∧ S' 2 0 = lN (upB A i n) := by
    intro m
    induction m with
    | zero => intro j S h1 h2; exact absurd h2 (by omega)
    | succ m ih =>
      intro j S h1 h2 hS
      have er : f_X1_reckon_24 fu T (m + 1) (nI i) (nI f) (nI n) (lN (10 ^ n)) (nI j) S = s_X1_reckon_24 fu (f_X1_reckon_24 fu T m) T (nI i) (nI f) (nI n) (lN (10 ^ n)) (nI j) S := rfl
      rw [er]
      unfold s_X1_reckon_24
      rcases Nat.lt_or_ge j 8 with hj | hj
      · rw [if_neg (i8 hj), c_alive hA hC fu hj]
        simp only [bd]
        rw [nI_1]
        by_cases ha : al A j = true
        · have hfj := (hA.2.1 j ha).2.2.1
          rw [if_pos ha, if_neg n10, gd_in hj (by omega), gd_in hi8 (by omega), nI_clamp (by omega), nI_clamp (by omega), (hC.2.2 i (al_lt hi)).1, (hC.2.2 j (al_lt ha)).1, show fI A i = nI (A 2 i) by rw [fI, if_pos hi], show fI A j = nI (A 2 j) by rw [fI, if_pos ha]]
          by_cases q : A 2 i < A 2 j
          · rw [if_neg (nI_ge q (by omega)), c_surv hA hC fu hfu ha (by omega)]
            obtain ⟨S2, g1, g2⟩ := c_addOne fu hfu (sv_le j n) hS
            simp only []
            rw [g1]
            refine ih (j + 1) S2 (by omega) (by omega) ?_
            show PO S2 (if al A j = true ∧ A 2 i < A 2 j then _ else _) (if al A j = true ∧ A 2 i < A 2 j then _ else _)
            rw [if_pos ⟨ha, q⟩, if_pos ⟨ha, q⟩]
            exact g2
          · rw [if_pos (nI_le (by omega) (by omega))]
            refine ih (j + 1) S (by omega) (by omega) ?_
            show PO S (if al A j = true ∧ A 2 i < A 2 j then _ else _) (if al A j = true ∧ A 2 i < A 2 j then _ else _)
            rw [if_neg (fun w => q w.2), if_neg (fun w => q w.2)]
            exact hS
        · rw [if_neg ha, if_pos rfl]
          refine ih (j + 1) S (by omega) (by omega) ?_
          show PO S (if al A j = true ∧ A 2 i < A 2 j then _ else _) (if al A j = true ∧ A 2 i < A 2 j then _ else _)
          rw [if_neg (fun w => ha w.1), if_neg (fun w => ha w.1)]
          exact hS
      · obtain rfl : j = 8 := by omega
        rw [if_pos (show (8 : Int32) ≤ nI 8 by decide)]
        exact e76 S hS
  have e15 : ∃ S' : S64, f_X1_reckon_15 fu T (nI i) (nI f) (nI n) (lN (10 ^ n)) SO = f_X1_shorten fu S' ∧ S' 1 0 = lN (upA A i f n) ∧ S' 2 0 = lN (upB A i n) := by
    unfold f_X1_reckon_15
    obtain ⟨S2, g1, g2⟩ := c_clear fu hfu SO
    rw [g1]
    exact loop fu 0 S2 (by omega) (by omega) g2
  unfold f_X1_reckon
  rcases hn with rfl | rfl
  · rw [if_pos (show nI 1 = (1 : Int32) from rfl)]
    exact e15
  · rw [if_neg (show ¬ nI 2 = (1 : Int32) by decide)]
    exact e15
