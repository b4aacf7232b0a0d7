/-! safe -/
def Wy (y : Nat) : Int32 := if y = 0 then -9 else nI (y - 1)
theorem Wy_s (y : Nat) : Wy (y + 1) = nI y := rfl
theorem clm_anti {k : Nat} (hk : k < 6) : ∀ d a, a + d ≤ 99 → clm k (a + d) ≤ clm k a
  | 0, a, _ => Nat.le_refl _
  | d + 1, a, h => Nat.le_trans (clm_mono k hk (a + d) (by omega)) (clm_anti hk d a (by omega))
theorem T_safe {SV SN SK SL SM : S32} (h : RR SV SN SK SL SM) (fu : Nat) (hfu : 1000 ≤ fu) (x : Int32) : ∃ o1 o2, f_X4_safe fu SV SN x = some o1 ∧ f_X5_safe fu SM x = some o2 ∧ o1.1 = o2.1 ∧ RR o1.2 SN SK SL o2.2 := by
  obtain ⟨A, hA, h99, hC, hM, hD⟩ := h.1
  obtain ⟨V1, M1, c1, m1, r1⟩ := ref_k h fu (x := -1) (k := 1) rfl (by omega) (by omega)
  unfold f_X4_safe f_X5_safe
  rcases alive_any hA hC hM fu x with ⟨i, hi, rfl, ha, e1, e2⟩ | ⟨e1, e2⟩
  · obtain ⟨b0, b1, b2, -, -⟩ := hA.2.1 i ha
    obtain ⟨p1, p2, -, -⟩ := (hM.2.2 i (al_lt ha)).2 ha
    have f2 := (hM.2.2 i (al_lt ha)).1
    rw [e1, e2]
    simp only [bd]
    rw [if_neg n10, if_neg n10]
    let p : Nat → Bool := fun y => decide (clm (A 0 i) (min 99 (A 1 i + y)) < A 2 i)
    have hc := fa_first_le p 100
    have hyes := fa_first_yes p 100
    have hno := fa_first_no p 100
    generalize fa_first p 100 = c at hc hyes hno
    have hlate : ∀ y, c ≤ y → y < 100 → clm (A 0 i) (min 99 (A 1 i + y)) < A 2 i := by
      intro y h1 h2
      have w1 : clm (A 0 i) (min 99 (A 1 i + c)) < A 2 i := by simpa [p] using hyes (by omega)
      have w2 := clm_anti (k := A 0 i) (by omega) (min 99 (A 1 i + y) - min 99 (A 1 i + c)) (min 99 (A 1 i + c)) (by omega)
      rw [show min 99 (A 1 i + c) + (min 99 (A 1 i + y) - min 99 (A 1 i + c)) = min 99 (A 1 i + y) by omega] at w2
      omega
    have hearly : ∀ y, y < c → ¬ clm (A 0 i) (min 99 (A 1 i + y)) < A 2 i := by
      intro y h1
      simpa [p] using hno y h1
    refine ⟨(Wy c, SV), (Wy c, SM), ?_, ?_, rfl, h⟩
    · refine itr_for (fun _ _ _ _ => none) (fun k => s_X4_safe_22 fu k SN) (fun y k => k (nI i) (Wy y) (nI y) SV) (fun _ => some (Wy c, SV)) c (fun _ => True) (fun k _ => ?_) (fun k y hy _ hk => ?_) fu 0 (by omega) (by omega) trivial
      · show s_X4_safe_22 fu k SN _ _ _ _ = _
        unfold s_X4_safe_22
        by_cases q : c = 100
        · rw [if_pos (show (99 : Int32) < nI c by rw [q]; decide)]
        · rw [if_neg (show ¬ (99 : Int32) < nI c from fun w => by have := (nI_ltI (a := 99) (by omega) (by omega)).mp w; omega), c_oor hA hC fu ha (by omega), if_pos (hlate c (by omega) (by omega))]
          simp only [bd]
          rw [if_neg n10]
      · show s_X4_safe_22 fu k SN _ _ _ _ = _
        unfold s_X4_safe_22
        rw [if_neg (show ¬ (99 : Int32) < nI y from fun w => by have := (nI_ltI (a := 99) (by omega) (by omega)).mp w; omega), c_oor hA hC fu ha (by omega), if_neg (hearly y hy)]
        simp only [bd, ↓reduceIte]
        rw [nI_1]; exact hk trivial
    · refine itr_for (fun _ _ _ _ => none) (fun k => s_X5_safe_19 fu k) (fun y k => k (nI i) (Wy (min y c)) (nI y) SM) (fun _ => some (Wy c, SM)) 100 (fun _ => True) (fun k _ => ?_) (fun k y hy _ hk => ?_) fu 0 (by omega) (by omega) trivial
      · show s_X5_safe_19 fu k _ _ _ _ = _
        unfold s_X5_safe_19
        rw [if_pos (show (99 : Int32) < nI 100 by decide), show min 100 c = c by omega]
      · show s_X5_safe_19 fu k _ _ _ _ = _
        have hk := hk trivial
        have el : f_X5_least fu (99 : Int32) (nI (A 1 i) + nI y) = some (nI (min 99 (A 1 i + y))) := by
          unfold f_X5_least
          rw [nI_add]
          by_cases q : A 1 i + y ≤ 99
          · rw [if_pos (show nI (A 1 i + y) ≤ (99 : Int32) from (nI_leI (b := 99) (by omega) (by omega)).mpr q), show min 99 (A 1 i + y) = A 1 i + y by omega]
          · rw [if_neg (show ¬ nI (A 1 i + y) ≤ (99 : Int32) from fun w => q ((nI_leI (b := 99) (by omega) (by omega)).mp w)), show min 99 (A 1 i + y) = 99 by omega]; rfl
        unfold s_X5_safe_19
        simp only [gd_in hi (show 8 < 2 ^ 31 by omega), nI_clamp (show i < 2 ^ 31 by omega), p1, p2, f2]
        rw [if_neg (show ¬ (99 : Int32) < nI y from fun w => by have := (nI_ltI (a := 99) (by omega) (by omega)).mp w; omega), el]
        simp only [bd]
        rw [m_cl fu b0 (by omega)]
        simp only []
        have hcb := (clm_b (A 0 i) (by omega) (min 99 (A 1 i + y)) (by omega)).1
        rw [fI, if_pos ha, nI_1]
        by_cases q : y < c
        · rw [if_neg (show ¬ nI (clm (A 0 i) (min 99 (A 1 i + y))) < nI (A 2 i) from fun w => hearly y q ((nI_ltI (by omega) (by omega)).mp w))]
          rw [show min (y + 1) c = y + 1 by omega, Wy_s] at hk
          exact hk
        · rw [if_pos ((nI_ltI (by omega) (by omega)).mpr (hlate y (by omega) hy))]
          rw [show min (y + 1) c = c by omega] at hk
          rw [show min y c = c by omega]
          exact hk
  · rw [e1, e2]
    simp only [bd, ↓reduceIte]
    rw [c1, m1]
    exact ⟨_, _, rfl, rfl, rfl, r1⟩
/-! carried -/
def brd (A : AB) (s i : Nat) : Nat := A 3 i * mvs A s i
theorem c_burden {T : S32} {A : AB} (hA : OKA A) (hC : CT T A) (fu : Nat) (hfu : 9 ≤ fu) {s : Nat} (hs : inA A s) : f_X3_burden fu T (nI s) = some (nI (sml A (brd A s) 8)) := by
  unfold f_X3_burden
  rw [c_floors hA hC fu hfu hs]
  simp only [bd]
  refine itr_for (fun _ _ _ _ => none) (fun k => s_X3_burden_11 fu k T) (fun i k => k (nI s) (nI (fst' A s 8)) (nI (sml A (brd A s) i)) (nI i)) (fun _ => some (nI (sml A (brd A s) 8))) 8 (fun _ => True) (fun k _ => ?_) (fun k i hi _ hk => ?_) fu 0 (by omega) (by omega) trivial
  · show s_X3_burden_11 fu k T _ _ _ _ = _
    unfold s_X3_burden_11
    rw [if_pos (show (8 : Int32) ≤ nI 8 by decide)]
  · show s_X3_burden_11 fu k T _ _ _ _ = _
    have hk := hk trivial
    rw [sml_s] at hk
    unfold s_X3_burden_11
    rw [if_neg (i8 hi), c_alive hA hC fu hi, holds_is fu hs.1 hi]
    simp only [bd]
    rw [nI_1]
    by_cases h : al A i = true
    · obtain ⟨e1, e2, e3, e4⟩ := (hC.2.2 i (al_lt h)).2 h
      rw [if_pos h] at hk
      rw [if_pos h, if_neg n10]
      by_cases hb : s.testBit i = true
      · rw [if_pos hb, if_neg n10]
        rw [show brd A s i = 0 by unfold brd mvs; rw [if_neg (fun q => by rw [hb] at q; cases q.2)]; rfl] at hk
        exact hk
      · have hb2 : s.testBit i = false := by simpa using hb
        rw [if_neg hb, if_pos rfl, gd_in hi (by omega), c_up hA hC fu hs h, nI_clamp (by omega), e3]
        simp only []
        rw [show brd A s i = A 3 i * ups A s i by unfold brd mvs; rw [if_pos ⟨h, hb2⟩]] at hk
        rw [pk_mul, nI_add]; exact hk
    · rw [if_neg h] at hk
      rw [if_neg h, if_pos rfl]; exact hk
theorem m_burden {M : S32} {A : AB} (hA : OKA A) (hM : MT M A) (fu : Nat) (hfu : 9 ≤ fu) {s : Nat} (hs : inA A s) : f_X5_carriedBy fu M (nI s) = some (nI (sml A (brd A s) 8)) := by
  have hn := hA.1
  rw [sml_8 hA]
  refine itr_for (fun _ _ _ => none) (fun k => s_X5_carriedBy_4 fu k M) (fun i k => k (nI s) (nI (sml A (brd A s) i)) (nI i)) (fun _ => some (nI (sml A (brd A s) (A 6 0)))) (A 6 0) (fun _ => True) (fun k _ => ?_) (fun k i hi _ hk => ?_) fu 0 (by omega) (by omega) trivial
  · show s_X5_carriedBy_4 fu k M _ _ _ = _
    unfold s_X5_carriedBy_4
    rw [hM.1, if_pos (nI_le (Nat.le_refl _) (by omega))]
  · show s_X5_carriedBy_4 fu k M _ _ _ = _
    have hk := hk trivial
    rw [sml_s] at hk
    unfold s_X5_carriedBy_4
    rw [hM.1, if_neg (nI_ge hi (by omega)), gd_in (by omega) (by omega), m_moves hA hM fu hfu hs hi, nI_clamp (by omega)]
    simp only [bd]
    rw [nI_1]
    by_cases h : al A i = true
    · obtain ⟨e1, e2, e3, e4⟩ := (hM.2.2 i (al_lt h)).2 h
      rw [if_pos h] at hk
      rw [e3, pk_mul, nI_add]; exact hk
    · rw [if_neg h] at hk
      rw [show mvs A s i = 0 by unfold mvs; rw [if_neg (fun q => h q.1)], show M 4 i * nI 0 = (0 : Int32) from Int32.mul_zero, nI_a0]; exact hk
theorem T_carried {SV SN SK SL SM : S32} (h : RR SV SN SK SL SM) (fu : Nat) (hfu : 1000 ≤ fu) (x : Int32) : ∃ o1 o2, f_X4_carried fu SV SN x = some o1 ∧ f_X5_carried fu SM x = some o2 ∧ o1.1 = o2.1 ∧ RR o1.2 SN SK SL o2.2 := by
  obtain ⟨A, hA, h99, hC, hM, hD⟩ := h.1
  obtain ⟨V1, M1, c1, m1, r1⟩ := ref_k h fu (x := -1) (k := 1) rfl (by omega) (by omega)
  unfold f_X4_carried f_X5_carried
  rcases are_any hA hC hM fu (by omega) x with ⟨s, rfl, hs, e1, e2⟩ | ⟨e1, e2⟩
  · rw [e1, e2]
    simp only [bd]
    rw [if_neg n10, if_neg n10, c_burden hA hC fu (by omega) hs, m_burden hA hM fu (by omega) hs]
    exact ⟨_, _, rfl, rfl, rfl, h⟩
  · rw [e1, e2]
    simp only [bd, ↓reduceIte]
    rw [c1, m1]
    exact ⟨_, _, rfl, rfl, rfl, r1⟩
/-! leastCarried -/
theorem inA_one {A : AB} (hA : OKA A) {b : Nat} (h : al A b = true) : inA A (2 ^ b) := by
  have hb := al_lt8 hA h
  refine ⟨Nat.pow_lt_pow_right (a := 2) (by omega) hb, fun i hi => ?_⟩
  rw [Nat.testBit_two_pow, decide_eq_true_eq] at hi
  rw [← hi]; exact h
theorem T_least {SV SN SK SL SM : S32} (h : RR SV SN SK SL SM) (fu : Nat) (hfu : 1000 ≤ fu) : ∃ o, f_X4_leastCarried fu SV SN = some o ∧ f_X5_leastCarried fu SM = some o := by
  obtain ⟨A, hA, h99, hC, hM, hD⟩ := h.1
  have hn := hA.1
  have tail : ∀ x y m i, A 6 0 ≤ i → i ≤ 8 → 8 < m + i → f_X4_leastCarried_7 fu SV SN m x y (nI i) = some x := by
    intro x y m i hi h8 hm
    refine itr_for (fun _ _ _ => none) (fun k => s_X4_leastCarried_7 fu k SV SN) (fun i k => k x y (nI i)) (fun _ => some x) 8 (fun i => A 6 0 ≤ i) (fun k _ => ?_) (fun k i hi hP hk => ?_) m i h8 hm hi
    · show s_X4_leastCarried_7 fu k SV SN _ _ _ = _
      unfold s_X4_leastCarried_7
      rw [if_pos (show (8 : Int32) ≤ nI 8 by decide)]
    · show s_X4_leastCarried_7 fu k SV SN _ _ _ = _
      unfold s_X4_leastCarried_7
      rw [if_neg (i8 hi), c_alive hA hC fu hi, al_f hP]
      simp only [bd]
      rw [nI_1]
      simpa using hk (by omega)
  have loop : ∀ d i m1 m2 best lst, i + d = A 6 0 → 8 < m1 + i → 8 < m2 + i → ((best = -9 ∧ lst = 0) ∨ ∃ b, al A b = true ∧ best = nI b ∧ lst = nI (sml A (brd A (2 ^ b)) 8)) → ∃ o, f_X4_leastCarried_7 fu SV SN m1 best lst (nI i) = some o ∧ f_X5_leastCarried_5 fu SM m2 best (nI i) = some o := by
    intro d
    induction d with
    | zero =>
      intro i m1 m2 best lst hi h1 h2 hst
      refine ⟨best, tail best lst m1 i (by omega) (by omega) h1, ?_⟩
      obtain ⟨m2, rfl⟩ : ∃ k, m2 = k + 1 := ⟨m2 - 1, by omega⟩
      show s_X5_leastCarried_5 fu _ SM _ _ = _
      unfold s_X5_leastCarried_5
      rw [hM.1, if_pos (nI_le (by omega) (by omega))]
    | succ d ih =>
      intro i m1 m2 best lst hi h1 h2 hst
      have hi8 : i < 8 := by omega
      obtain ⟨m1, rfl⟩ : ∃ k, m1 = k + 1 := ⟨m1 - 1, by omega⟩
      obtain ⟨m2, rfl⟩ : ∃ k, m2 = k + 1 := ⟨m2 - 1, by omega⟩
      show ∃ o, s_X4_leastCarried_7 fu (f_X4_leastCarried_7 fu SV SN m1) SV SN _ _ _ = some o ∧ s_X5_leastCarried_5 fu (f_X5_leastCarried_5 fu SM m2) SM _ _ = some o
      unfold s_X4_leastCarried_7 s_X5_leastCarried_5 f_X4_leastCarried_51
      rw [hM.1, if_neg (i8 hi8), if_neg (nI_ge (by omega) (by omega)), c_alive hA hC fu hi8, gd_in hi8 (by omega), nI_clamp (by omega), (hM.2.2 i (by omega)).1]
      simp only [bd]
      rw [nI_1, bit_one i (by omega)]
      by_cases ha : al A i = true
      · have ib := inA_one hA ha
        rw [if_pos ha, if_neg n10, if_neg (fI_np hA ha), c_burden hA hC fu (by omega) ib, m_burden hA hM fu (by omega) ib]
        simp only []
        rcases hst with ⟨rfl, rfl⟩ | ⟨b, hb, rfl, rfl⟩
        · rw [if_pos rfl, if_pos (show (-9 : Int32) < 0 by decide)]
          exact ih (i + 1) m1 m2 _ _ (by omega) (by omega) (by omega) (Or.inr ⟨i, ha, rfl, rfl⟩)
        · have hb8 := al_lt8 hA hb
          rw [if_neg (show ¬ nI b = (-9 : Int32) from fun w => by
            have h1 : (nI b).toInt = (b : Int) := nI_toInt (by omega)
            rw [w] at h1
            have h2 : (-9 : Int32).toInt = -9 := rfl
            omega), if_neg (nI_nn (by omega)), bit_one b (by omega), m_burden hA hM fu (by omega) (inA_one hA hb)]
          simp only []
          by_cases q : nI (sml A (brd A (2 ^ b)) 8) ≤ nI (sml A (brd A (2 ^ i)) 8)
          · rw [if_pos q, if_pos q]
            exact ih (i + 1) m1 m2 _ _ (by omega) (by omega) (by omega) (Or.inr ⟨b, hb, rfl, rfl⟩)
          · rw [if_neg q, if_neg q]
            exact ih (i + 1) m1 m2 _ _ (by omega) (by omega) (by omega) (Or.inr ⟨i, ha, rfl, rfl⟩)
      · rw [if_neg ha, if_pos rfl, if_pos (fI_nn ha)]
        exact ih (i + 1) m1 m2 _ _ (by omega) (by omega) (by omega) hst
  exact loop (A 6 0) 0 fu fu (-9) 0 (by omega) (by omega) (by omega) (Or.inl ⟨rfl, rfl⟩)
/-! free -/
theorem tb_free : ∀ F, F < 1024 → (1023 : Int32) &&& (nI F ^^^ (-1 : Int32)) = nI (bsn (fun f => !F.testBit f) 10) := by decide +kernel
theorem inA_living {A : AB} : inA A (bsn (al A) 8) := by
  refine ⟨bsn_lt _ 8, fun i hi => ?_⟩
  rw [bsn_test, Bool.and_eq_true] at hi
  exact hi.2
theorem wh_fst {A : AB} (hA : OKA A) (f : Nat) : (wh A f < 8) ↔ (fst' A (bsn (al A) 8) 8).testBit f = true := by
  rw [fst_test]
  constructor
  · intro h
    obtain ⟨h1, h2⟩ := wh_yes h
    refine ⟨wh A f, h, ?_, h2⟩
    rw [bsn_test, h1]; simpa using h
  · rintro ⟨j, h1, h2, h3⟩
    rw [bsn_test, Bool.and_eq_true] at h2
    rw [wh_eq hA h2.2 h3]; exact h1
theorem T_free {SV SN SK SL SM : S32} (h : RR SV SN SK SL SM) (fu : Nat) (hfu : 1000 ≤ fu) : ∃ o, f_X4_free fu SV SN = some o ∧ f_X5_free fu SM = some o := by
  obtain ⟨A, hA, h99, hC, hM, hD⟩ := h.1
  refine ⟨nI (bsn (fun f => !(fst' A (bsn (al A) 8) 8).testBit f) 10), ?_, ?_⟩
  · unfold f_X4_free
    rw [c_living hA hC fu (by omega)]
    simp only [bd]
    rw [c_floors hA hC fu (by omega) inA_living]
    simp only []
    rw [tb_free _ (fst_lt hA inA_living 8)]
  · refine itr_for (fun _ _ => none) (fun k => s_X5_free_4 fu k SM) (fun i k => k (nI (bsn (fun f => !(fst' A (bsn (al A) 8) 8).testBit f) i)) (nI i)) (fun _ => some (nI (bsn (fun f => !(fst' A (bsn (al A) 8) 8).testBit f) 10))) 10 (fun _ => True) (fun k _ => ?_) (fun k i hi _ hk => ?_) fu 0 (by omega) (by omega) trivial
    · show s_X5_free_4 fu k SM _ _ = _
      unfold s_X5_free_4
      rw [if_pos (show (10 : Int32) ≤ nI 10 by decide)]
    · show s_X5_free_4 fu k SM _ _ = _
      have hk := hk trivial
      rw [bsn_s] at hk
      have hw := wh_le A i
      unfold s_X5_free_4
      rw [if_neg (show ¬ (10 : Int32) ≤ nI i from fun w => by have := (nI_leI (a := 10) (by omega) (by omega)).mp w; omega), m_who hA hM fu (by omega) (by omega)]
      simp only [bd]
      rw [nI_1, bit_one i (by omega)]
      by_cases q : wh A i < 8
      · have q2 := (wh_fst hA i).mp q
        rw [if_neg (by simp [q2])] at hk
        rw [if_pos q, if_pos (nI_p (by omega)), nI_or0]; exact hk
      · have q2 : (fst' A (bsn (al A) 8) 8).testBit i = false := by
          cases hq : (fst' A (bsn (al A) 8) 8).testBit i with
          | false => rfl
          | true => exact absurd ((wh_fst hA i).mpr hq) q
        rw [if_pos (by simp [q2])] at hk
        rw [if_neg q, if_neg (by decide), fa_or]; exact hk
/-! judge -/
theorem T_judge {SV SN SK SL SM : S32} (h : RR SV SN SK SL SM) (fu : Nat) (hfu : 1000 ≤ fu) : ∃ o1 o2, f_X4_judge fu SV SN = some o1 ∧ f_X5_judge fu SM = some o2 ∧ o1.1 = o2.1 ∧ RR o1.2 SN SK SL o2.2 := by
  obtain ⟨A, hA, h99, hC, hM, hD⟩ := h.1
  obtain ⟨r, hr, r1, r2, hl⟩ := h.2.1
  have hn := hA.1
  have tail : ∀ x m i, A 6 0 ≤ i → i ≤ 8 → 8 < m + i → f_X4_firstNotSo_4 fu SV SN m x (nI i) = f_X4_firstNotSo_61 fu SV SN x := by
    intro x m i hi h8 hm
    refine itr_for (fun _ _ => none) (fun k => s_X4_firstNotSo_4 fu k SV SN) (fun i k => k x (nI i)) (fun _ => f_X4_firstNotSo_61 fu SV SN x) 8 (fun i => A 6 0 ≤ i) (fun k _ => ?_) (fun k i hi hP hk => ?_) m i h8 hm hi
    · show s_X4_firstNotSo_4 fu k SV SN _ _ = _
      unfold s_X4_firstNotSo_4
      rw [if_pos (show (8 : Int32) ≤ nI 8 by decide)]
    · show s_X4_firstNotSo_4 fu k SV SN _ _ = _
      unfold s_X4_firstNotSo_4
      rw [if_neg (i8 hi), c_alive hA hC fu hi, al_f hP]
      simp only [bd]
      rw [nI_1]
      simpa using hk (by omega)
  have loop : ∀ d i m1 m2 at', i + d = A 6 0 → 8 < m1 + i → 8 < m2 + i → at' ≤ r → ∃ v, f_X4_firstNotSo_4 fu SV SN m1 (nI at') (nI i) = some v ∧ f_X5_judge_14 fu m2 (nI r) (nI at') (nI i) (sa SM 23 (fun _ => (0 : Int32))) = some (v, sa SM 23 (fun _ => (0 : Int32))) := by
    intro d
    induction d with
    | zero =>
      intro i m1 m2 a hi h1 h2 ha
      obtain ⟨m2, rfl⟩ : ∃ k, m2 = k + 1 := ⟨m2 - 1, by omega⟩
      rw [tail (nI a) m1 i (by omega) (by omega) h1]
      show ∃ v, _ ∧ s_X5_judge_14 fu _ _ _ _ _ = _
      unfold s_X5_judge_14 f_X4_firstNotSo_61 f_X5_judge_65
      rw [show sa SM 23 (fun _ => (0 : Int32)) 6 0 = SM 6 0 from rfl, hM.1, if_pos (nI_le (by omega) (by omega)), r1]
      by_cases q : nI r ≤ nI a
      · rw [if_pos q, if_pos q]; exact ⟨_, rfl, rfl⟩
      · rw [if_neg q, if_neg q]; exact ⟨_, rfl, rfl⟩
    | succ d ih =>
      intro i m1 m2 a hi h1 h2 har
      have hi8 : i < 8 := by omega
      obtain ⟨m1, rfl⟩ : ∃ k, m1 = k + 1 := ⟨m1 - 1, by omega⟩
      obtain ⟨m2, rfl⟩ : ∃ k, m2 = k + 1 := ⟨m2 - 1, by omega⟩
      show ∃ v, s_X4_firstNotSo_4 fu (f_X4_firstNotSo_4 fu SV SN m1) SV SN _ _ = some v ∧ s_X5_judge_14 fu (f_X5_judge_14 fu m2) _ _ _ _ = _
      unfold s_X4_firstNotSo_4 s_X5_judge_14
      rw [show sa SM 23 (fun _ => (0 : Int32)) 6 0 = SM 6 0 from rfl, show sa SM 23 (fun _ => (0 : Int32)) 3 = SM 3 from rfl, show sa SM 23 (fun _ => (0 : Int32)) 22 = SM 22 from rfl, hM.1, if_neg (i8 hi8), if_neg (nI_ge (by omega) (by omega)), c_alive hA hC fu hi8, gd_in hi8 (by omega)]
      simp only [bd]
      simp only [gd_in hi8 (show 8 < 2 ^ 31 by omega), nI_clamp (show i < 2 ^ 31 by omega), (hM.2.2 i (by omega)).1, (hC.2.2 i (by omega)).1, r1, nI_1]
      by_cases ha : al A i = true
      · rw [if_pos ha, if_neg n10, if_pos (fI_p hA ha)]
        by_cases q : a = r
        · subst q
          rw [if_pos (nI_le (Nat.le_refl _) (by omega)), if_pos rfl]
          exact ⟨_, rfl, rfl⟩
        · obtain ⟨v, hv, w1, w2⟩ := hl a (by omega)
          rw [if_neg (nI_ge (by omega) (by omega)), if_neg (fun w => q ((nI_eq (by omega) (by omega)).mp w)), gd_in (show a < 8 by omega) (by omega), gd_in (show a < 8 by omega) (by omega), nI_clamp (by omega), w1, w2]
          by_cases q2 : nI v = fI A i
          · rw [if_pos q2, if_pos q2]
            exact ih (i + 1) m1 m2 (a + 1) (by omega) (by omega) (by omega) (by omega)
          · rw [if_neg q2, if_neg q2]
            exact ⟨_, rfl, rfl⟩
      · rw [if_neg ha, if_pos rfl, if_neg (fI_n ha)]
        exact ih (i + 1) m1 m2 a (by omega) (by omega) (by omega) har
  obtain ⟨v, e1, e2⟩ := loop (A 6 0) 0 fu fu 0 (by omega) (by omega) (by omega) (by omega)
  refine ⟨(v, sa SV 7 (fun _ => 0)), (v, sa SM 23 (fun _ => 0)), ?_, ?_, rfl, RA_fr7 h.1 rfl rfl rfl rfl rfl rfl rfl, ⟨0, by omega, rfl, rfl, fun i hi => absurd hi (by omega)⟩, RLet_fr h.2.2.1 rfl rfl, RRef_fr h.2.2.2.1 rfl rfl, RIm_frr h.2.2.2.2 rfl rfl rfl⟩
  · unfold f_X4_judge f_X4_firstNotSo
    rw [show f_X4_firstNotSo_4 fu SV SN fu (0 : Int32) (0 : Int32) = some v from e1]
    rfl
  · unfold f_X5_judge
    rw [r2]
    exact e2
