theorem fI_p {A : AB} (hA : OKA A) {i : Nat} (h : al A i = true) : (0 : Int32) ≤ fI A i := by
  have := (hA.2.1 i h).2.2.1
  rw [fI, if_pos h]; exact nI_p (by omega)
theorem fI_n {A : AB} {i : Nat} (h : ¬ al A i = true) : ¬ (0 : Int32) ≤ fI A i := by
  rw [fI, if_neg h]; decide
theorem fI_np {A : AB} (hA : OKA A) {i : Nat} (h : al A i = true) : ¬ fI A i < (0 : Int32) := by
  have := (hA.2.1 i h).2.2.1
  rw [fI, if_pos h]; exact nI_nn (by omega)
theorem fI_nn {A : AB} {i : Nat} (h : ¬ al A i = true) : fI A i < (0 : Int32) := by
  rw [fI, if_neg h]; decide
theorem sm_tail {f : Nat → Nat} {n : Nat} (h : ∀ j, n ≤ j → f j = 0) : ∀ m, n ≤ m → fb_sm f m = fb_sm f n
  | 0, hm => by rw [show n = 0 by omega]
  | m + 1, hm => by
    by_cases q : n = m + 1
    · rw [q]
    · rw [fb_sm_succ, h m (by omega), sm_tail h m (by omega)]; rfl
/-- the sum of a number over the living -/
def sml (A : AB) (f : Nat → Nat) (n : Nat) : Nat := fb_sm (fun i => if al A i then f i else 0) n
theorem sml_s (A : AB) (f : Nat → Nat) (n : Nat) : sml A f (n + 1) = sml A f n + (if al A n then f n else 0) := fb_sm_succ _ n
theorem sml_8 {A : AB} (hA : OKA A) (f : Nat → Nat) : sml A f 8 = sml A f (A 6 0) := sm_tail (fun j hj => by rw [al_f hj]; rfl) 8 hA.1
theorem c_sum3 {T : S32} {A : AB} (hA : OKA A) (hC : CT T A) (fu : Nat) (hfu : 9 ≤ fu) : f_X3_sumOfLiving_v3 fu T = some (nI (sml A (A 3) 8)) := by
  refine itr_for (fun _ _ => none) (fun k => s_X3_sumOfLiving_v3_4 fu k T) (fun i k => k (nI (sml A (A 3) i)) (nI i)) (fun _ => some (nI (sml A (A 3) 8))) 8 (fun _ => True) (fun k _ => ?_) (fun k i hi _ hk => ?_) fu 0 (by omega) (by omega) trivial
  · show s_X3_sumOfLiving_v3_4 fu k T _ _ = _
    unfold s_X3_sumOfLiving_v3_4
    rw [if_pos (show (8 : Int32) ≤ nI 8 by decide)]
  · show s_X3_sumOfLiving_v3_4 fu k T _ _ = _
    have hk := hk trivial
    rw [sml_s] at hk
    unfold s_X3_sumOfLiving_v3_4
    rw [if_neg (i8 hi), if_neg (i8 hi), c_alive hA hC fu hi]
    simp only [bd]
    rw [nI_1]
    by_cases h : al A i = true
    · obtain ⟨e1, e2, e3, e4⟩ := (hC.2.2 i (al_lt h)).2 h
      rw [if_pos h] at hk
      rw [if_pos h, if_neg n10, gd_in hi (by omega), nI_clamp (by omega), e3, nI_add, hk]
    · rw [if_neg h] at hk
      rw [if_neg h, if_pos rfl]; exact hk
theorem c_sum1 {T : S32} {A : AB} (hA : OKA A) (hC : CT T A) (fu : Nat) (hfu : 9 ≤ fu) : f_X3_sumOfLiving_v1 fu T = some (nI (sml A (A 1) 8)) := by
  refine itr_for (fun _ _ => none) (fun k => s_X3_sumOfLiving_v1_4 fu k T) (fun i k => k (nI (sml A (A 1) i)) (nI i)) (fun _ => some (nI (sml A (A 1) 8))) 8 (fun _ => True) (fun k _ => ?_) (fun k i hi _ hk => ?_) fu 0 (by omega) (by omega) trivial
  · show s_X3_sumOfLiving_v1_4 fu k T _ _ = _
    unfold s_X3_sumOfLiving_v1_4
    rw [if_pos (show (8 : Int32) ≤ nI 8 by decide)]
  · show s_X3_sumOfLiving_v1_4 fu k T _ _ = _
    have hk := hk trivial
    rw [sml_s] at hk
    unfold s_X3_sumOfLiving_v1_4
    rw [if_neg (i8 hi), if_neg (i8 hi), c_alive hA hC fu hi]
    simp only [bd]
    rw [nI_1]
    by_cases h : al A i = true
    · obtain ⟨e1, e2, e3, e4⟩ := (hC.2.2 i (al_lt h)).2 h
      rw [if_pos h] at hk
      rw [if_pos h, if_neg n10, gd_in hi (by omega), nI_clamp (by omega), e2, nI_add, hk]
    · rw [if_neg h] at hk
      rw [if_neg h, if_pos rfl]; exact hk
theorem m_sum3 {M : S32} {A : AB} (hA : OKA A) (hM : MT M A) (fu : Nat) (hfu : 9 ≤ fu) : f_X5_count_88 fu M fu 0 0 = some (nI (sml A (A 3) 8)) := by
  have hn := hA.1
  rw [sml_8 hA]
  refine itr_for (fun _ _ => none) (fun k => s_X5_count_88 fu k M) (fun i k => k (nI (sml A (A 3) i)) (nI i)) (fun _ => some (nI (sml A (A 3) (A 6 0)))) (A 6 0) (fun _ => True) (fun k _ => ?_) (fun k i hi _ hk => ?_) fu 0 (by omega) (by omega) trivial
  · show s_X5_count_88 fu k M _ _ = _
    unfold s_X5_count_88
    rw [hM.1, if_pos (nI_le (Nat.le_refl _) (by omega))]
  · show s_X5_count_88 fu k M _ _ = _
    have hk := hk trivial
    rw [sml_s] at hk
    unfold s_X5_count_88
    simp only [gd_in (show i < 8 by omega) (show 8 < 2 ^ 31 by omega), nI_clamp (show i < 2 ^ 31 by omega)]
    rw [hM.1, if_neg (nI_ge hi (by omega)), (hM.2.2 i hi).1, nI_1]
    by_cases h : al A i = true
    · obtain ⟨e1, e2, e3, e4⟩ := (hM.2.2 i hi).2 h
      rw [if_pos h] at hk
      rw [if_pos (fI_p hA h), e3, nI_add, hk]
    · rw [if_neg h] at hk
      rw [if_neg (fI_n h), nI_a0]; exact hk
theorem m_sum1 {M : S32} {A : AB} (hA : OKA A) (hM : MT M A) (fu : Nat) (hfu : 9 ≤ fu) : f_X5_count_128 fu M fu 0 0 = some (nI (sml A (A 1) 8)) := by
  have hn := hA.1
  rw [sml_8 hA]
  refine itr_for (fun _ _ => none) (fun k => s_X5_count_128 fu k M) (fun i k => k (nI (sml A (A 1) i)) (nI i)) (fun _ => some (nI (sml A (A 1) (A 6 0)))) (A 6 0) (fun _ => True) (fun k _ => ?_) (fun k i hi _ hk => ?_) fu 0 (by omega) (by omega) trivial
  · show s_X5_count_128 fu k M _ _ = _
    unfold s_X5_count_128
    rw [hM.1, if_pos (nI_le (Nat.le_refl _) (by omega))]
  · show s_X5_count_128 fu k M _ _ = _
    have hk := hk trivial
    rw [sml_s] at hk
    unfold s_X5_count_128
    simp only [gd_in (show i < 8 by omega) (show 8 < 2 ^ 31 by omega), nI_clamp (show i < 2 ^ 31 by omega)]
    rw [hM.1, if_neg (nI_ge hi (by omega)), (hM.2.2 i hi).1, nI_1]
    by_cases h : al A i = true
    · obtain ⟨e1, e2, e3, e4⟩ := (hM.2.2 i hi).2 h
      rw [if_pos h] at hk
      rw [if_pos (fI_p hA h), e2, nI_add, hk]
    · rw [if_neg h] at hk
      rw [if_neg (fI_n h), nI_a0]; exact hk
/-! how many live -/
theorem bit31 : ∀ i, i < 31 → ∀ s, s < 256 → ((nI s >>> (nI i &&& 31)) &&& (1 : Int32)) = if s.testBit i then 1 else 0 := by decide +kernel
theorem tb_high {s : Nat} (hs : s < 256) {j : Nat} (hj : 8 ≤ j) : s.testBit j = false := Nat.testBit_lt_two_pow (Nat.lt_of_lt_of_le hs (show 256 ≤ 2 ^ j from Nat.pow_le_pow_right (n := 2) (by omega) hj))
theorem m_bits (fu : Nat) (hfu : 32 ≤ fu) {s : Nat} (hs : s < 256) : f_X5_bits fu (nI s) = some (nI (fb_ct (fun j => s.testBit j) 10)) := by
  rw [show fb_ct (fun j => s.testBit j) 10 = fb_ct (fun j => s.testBit j) 31 by
    rw [ct_tail (n := 8) (fun j hj => tb_high hs hj) 10 (by omega), ct_tail (n := 8) (fun j hj => tb_high hs hj) 31 (by omega)]]
  refine itr_for (fun _ _ _ => none) (fun k => s_X5_bits_4 fu k) (fun i k => k (nI s) (nI (fb_ct (fun j => s.testBit j) i)) (nI i)) (fun _ => some (nI (fb_ct (fun j => s.testBit j) 31))) 31 (fun _ => True) (fun k _ => ?_) (fun k i hi _ hk => ?_) fu 0 (by omega) (by omega) trivial
  · show s_X5_bits_4 fu k _ _ _ = _
    unfold s_X5_bits_4
    rw [if_pos (show (31 : Int32) ≤ nI 31 by decide)]
  · show s_X5_bits_4 fu k _ _ _ = _
    have hk := hk trivial
    rw [fb_ct_succ] at hk
    unfold s_X5_bits_4
    rw [if_neg (show ¬ (31 : Int32) ≤ nI i from fun w => by have := (nI_leI (a := 31) (by omega) (by omega)).mp w; omega), bit31 i hi s hs, nI_1]
    by_cases h : s.testBit i = true
    · rw [if_pos h] at hk ⊢
      rw [nI_1]; exact hk
    · rw [if_neg h] at hk ⊢
      rw [nI_a0]; exact hk
theorem sub10 : ∀ j, 11 ≤ j → j ≤ 16 → nI j - (10 : Int32) = nI (j - 10) := by
  intro j h1 h2
  rcases (show j = 11 ∨ j = 12 ∨ j = 13 ∨ j = 14 ∨ j = 15 ∨ j = 16 by omega) with rfl | rfl | rfl | rfl | rfl | rfl <;> rfl
theorem isIn_any (fu : Nat) (x : Int32) (lo hi : Nat) (h2 : hi < 2 ^ 31) (hlo : lo ≤ hi) : (∃ j, lo ≤ j ∧ j ≤ hi ∧ x = nI j ∧ f_X5_isIn fu x (nI lo) (nI hi) = some 1) ∨ ((x < nI lo ∨ nI hi < x) ∧ f_X5_isIn fu x (nI lo) (nI hi) = some 0) := by
  unfold f_X5_isIn
  by_cases h1 : x < nI lo
  · right; exact ⟨Or.inl h1, if_pos h1⟩
  · by_cases h3 : nI hi < x
    · right; exact ⟨Or.inr h3, by rw [if_neg h1, if_pos h3]⟩
    · left
      have h0 : ¬ x < 0 := fun q => by
        have w1 := (fa_lt _ _).mp q
        have w2 := (fa_le _ _).mp (fa_of_nlt h1)
        rw [nI_toInt (by omega)] at w2
        have h4 : (0 : Int32).toInt = 0 := rfl
        omega
      obtain ⟨j, hj, rfl⟩ := nI_of h0
      refine ⟨j, ?_, ?_, rfl, by rw [if_neg h1, if_neg h3]⟩
      · exact (nI_leI (by omega) hj).mp (fa_of_nlt h1)
      · exact (nI_leI hj (by omega)).mp (fa_of_nlt h3)
theorem T_count {SV SN SK SL SM : S32} (h : RR SV SN SK SL SM) (fu : Nat) (hfu : 1000 ≤ fu) (x : Int32) : ∃ o, f_X4_count fu SV SN SL x = some o ∧ f_X5_count fu SM x = some o := by
  obtain ⟨A, hA, h99, hC, hM, hD⟩ := h.1
  obtain ⟨n, hn, l1, l2, -⟩ := h.2.2.1
  obtain ⟨r, hr, r1, r2, -⟩ := h.2.1
  have hf := h.2.2.2.1
  unfold f_X4_count f_X5_count
  rcases isIn_any fu x 11 16 (by omega) (by omega) with ⟨j, h1, h2, rfl, e⟩ | ⟨hx, e⟩
  · rw [show f_X5_isIn fu (nI j) (11 : Int32) (16 : Int32) = some 1 from e]
    simp only [bd]
    have ne : ∀ k, k < 11 → ¬ nI j = nI k := fun k hk w => by have := (nI_eq (by omega) (by omega)).mp w; omega
    rw [if_neg n10, if_neg (show ¬ nI j = (0 : Int32) from ne 0 (by omega)), if_neg (show ¬ nI j = (1 : Int32) from ne 1 (by omega)), if_neg (show ¬ nI j = (2 : Int32) from ne 2 (by omega)), if_neg (show ¬ nI j = (3 : Int32) from ne 3 (by omega)), if_neg (show ¬ nI j = (4 : Int32) from ne 4 (by omega)), if_neg (show ¬ nI j = (5 : Int32) from ne 5 (by omega)), if_neg (show ¬ nI j = (6 : Int32) from ne 6 (by omega)), if_neg (show ¬ nI j ≤ (10 : Int32) from fun w => by have := (nI_leI (b := 10) (by omega) (by omega)).mp w; omega), if_neg (show ¬ (16 : Int32) < nI j from fun w => by have := (nI_ltI (a := 16) (by omega) (by omega)).mp w; omega), sub10 j h1 h2, gd_in (by omega) (by omega), gd_in (by omega) (by omega), nI_clamp (by omega), hf (j - 10) (by omega) (by omega)]
    exact ⟨_, rfl, rfl⟩
  · rw [show f_X5_isIn fu x (11 : Int32) (16 : Int32) = some 0 from e]
    simp only [bd, ↓reduceIte]
    have hb : bsn (al A) 8 < 256 := bsn_lt _ 8
    rw [c_living hA hC fu (by omega), m_living hA hM fu (by omega)]
    simp only []
    rw [bitc fu (by omega), m_bits fu (by omega) hb, c_sum3 hA hC fu (by omega), c_sum1 hA hC fu (by omega), m_sum3 hA hM fu (by omega), m_sum1 hA hM fu (by omega), hC.1, hC.2.1, hM.1, hM.2.1, r1, r2, l1, l2]
    simp only []
    by_cases q0 : x = 0
    · rw [if_pos q0, if_pos q0]; exact ⟨_, rfl, rfl⟩
    rw [if_neg q0, if_neg q0]
    by_cases q1 : x = 1
    · rw [if_pos q1, if_pos q1]; exact ⟨_, rfl, rfl⟩
    rw [if_neg q1, if_neg q1]
    by_cases q2 : x = 2
    · rw [if_pos q2, if_pos q2]; exact ⟨_, rfl, rfl⟩
    rw [if_neg q2, if_neg q2]
    by_cases q3 : x = 3
    · rw [if_pos q3, if_pos q3]; exact ⟨_, rfl, rfl⟩
    rw [if_neg q3, if_neg q3]
    by_cases q4 : x = 4
    · rw [if_pos q4, if_pos q4]; exact ⟨_, rfl, rfl⟩
    rw [if_neg q4, if_neg q4]
    by_cases q5 : x = 5
    · rw [if_pos q5, if_pos q5]; exact ⟨_, rfl, rfl⟩
    rw [if_neg q5, if_neg q5]
    by_cases q6 : x = 6
    · rw [if_pos q6, if_pos q6]; exact ⟨_, rfl, rfl⟩
    rw [if_neg q6, if_neg q6]
    refine ⟨_, ?_, rfl⟩
    rcases hx with hx | hx
    · rw [if_pos (show x ≤ (10 : Int32) from (fa_le _ _).mpr (by
        have w := (fa_lt _ _).mp hx
        have e1 : (nI 11).toInt = 11 := rfl
        have e2 : (10 : Int32).toInt = 10 := rfl
        omega))]
    · rw [if_pos (show (16 : Int32) < x from hx)]
      split <;> rfl
/-! mean -/
def mch (A : AB) (i : Nat) : Nat := chn (A 0 i) (A 1 i)
theorem c_ch' {T : S32} {A : AB} (hA : OKA A) (hC : CT T A) (fu : Nat) {i : Nat} (h : al A i = true) : f_X3_chanceAfter fu T (nI i) (0 : Int32) = some (nI (mch A i)) := by
  have w1 := c_ch hA hC fu h (show 0 ≤ 99 by omega)
  have := (hA.2.1 i h).2.1
  rw [show min 99 (A 1 i + 0) = A 1 i by omega] at w1
  exact w1
theorem T_mean {SV SN SK SL SM : S32} (h : RR SV SN SK SL SM) (fu : Nat) (hfu : 1000 ≤ fu) : ∃ o, f_X4_mean fu SV SN = some o ∧ f_X5_mean fu SM = some o := by
  obtain ⟨A, hA, h99, hC, hM, hD⟩ := h.1
  have hn := hA.1
  refine ⟨nI (sml A (mch A) 8), ?_, ?_⟩
  · refine itr_for (fun _ _ => none) (fun k => s_X4_mean_4 fu k SV SN) (fun i k => k (nI (sml A (mch A) i)) (nI i)) (fun _ => some (nI (sml A (mch A) 8))) 8 (fun _ => True) (fun k _ => ?_) (fun k i hi _ hk => ?_) fu 0 (by omega) (by omega) trivial
    · show s_X4_mean_4 fu k SV SN _ _ = _
      unfold s_X4_mean_4
      rw [if_pos (show (8 : Int32) ≤ nI 8 by decide)]
    · show s_X4_mean_4 fu k SV SN _ _ = _
      have hk := hk trivial
      rw [sml_s] at hk
      unfold s_X4_mean_4
      rw [if_neg (i8 hi), c_alive hA hC fu hi]
      simp only [bd]
      rw [nI_1]
      by_cases h : al A i = true
      · rw [if_pos h] at hk
        rw [if_pos h, if_neg n10, c_ch' hA hC fu h]
        simp only []
        rw [nI_add, hk]
      · rw [if_neg h] at hk
        rw [if_neg h, if_pos rfl]; exact hk
  · rw [sml_8 hA]
    refine itr_for (fun _ _ => none) (fun k => s_X5_mean_4 fu k SM) (fun i k => k (nI (sml A (mch A) i)) (nI i)) (fun _ => some (nI (sml A (mch A) (A 6 0)))) (A 6 0) (fun _ => True) (fun k _ => ?_) (fun k i hi _ hk => ?_) fu 0 (by omega) (by omega) trivial
    · show s_X5_mean_4 fu k SM _ _ = _
      unfold s_X5_mean_4
      rw [hM.1, if_pos (nI_le (Nat.le_refl _) (by omega))]
    · show s_X5_mean_4 fu k SM _ _ = _
      have hk := hk trivial
      rw [sml_s] at hk
      unfold s_X5_mean_4
      simp only [gd_in (show i < 8 by omega) (show 8 < 2 ^ 31 by omega), nI_clamp (show i < 2 ^ 31 by omega)]
      rw [hM.1, if_neg (nI_ge hi (by omega)), (hM.2.2 i hi).1, nI_1]
      by_cases h : al A i = true
      · rw [if_pos h] at hk
        rw [if_pos (fI_p hA h), m_ch hA hM fu h]
        simp only [bd]
        rw [nI_add]; exact hk
      · rw [if_neg h] at hk
        rw [if_neg (fI_n h), nI_a0]; exact hk
/-! stuck -/
theorem c_oor {T : S32} {A : AB} (hA : OKA A) (hC : CT T A) (fu : Nat) {i y : Nat} (h : al A i = true) (hy : y ≤ 99) : f_X3_isOutOfReach fu T (nI i) (nI y) = some (if clm (A 0 i) (min 99 (A 1 i + y)) < A 2 i then 1 else 0) := by
  have hi := al_lt8 hA h
  obtain ⟨b0, b1, b2, -, -⟩ := hA.2.1 i h
  have hc := (clm_b (A 0 i) (by omega) (min 99 (A 1 i + y)) (by omega)).1
  unfold f_X3_isOutOfReach
  rw [gd_in hi (by omega), c_cl hA hC fu h hy]
  simp only [bd]
  rw [nI_clamp (by omega), (hC.2.2 i (al_lt h)).1, fI, if_pos h]
  by_cases q : clm (A 0 i) (min 99 (A 1 i + y)) < A 2 i
  · rw [if_neg (nI_ge q (by omega)), if_pos q]
  · rw [if_pos (nI_le (by omega) (by omega)), if_neg q]
def stk (A : AB) (i : Nat) : Bool := al A i && decide (clm (A 0 i) (A 1 i) < A 2 i)
theorem nI_or0 (n : Nat) : nI n ||| (0 : Int32) = nI n := by rw [show (0 : Int32) = nI 0 from rfl, fa_or, Nat.or_zero]
theorem bsn_s (p : Nat → Bool) (n : Nat) : bsn p (n + 1) = if p n then bsn p n ||| 2 ^ n else bsn p n := rfl
theorem T_stuck {SV SN SK SL SM : S32} (h : RR SV SN SK SL SM) (fu : Nat) (hfu : 1000 ≤ fu) : ∃ o, f_X4_stuck fu SV SN = some o ∧ f_X5_stuck fu SM = some o := by
  obtain ⟨A, hA, h99, hC, hM, hD⟩ := h.1
  have hn := hA.1
  have e8 := bsn_8 (p := stk A) hn (fun i hi => by rw [stk, al_f hi]; rfl)
  refine ⟨nI (bsn (stk A) 8), ?_, ?_⟩
  · refine itr_for (fun _ _ => none) (fun k => s_X4_stuck_4 fu k SV SN) (fun i k => k (nI (bsn (stk A) i)) (nI i)) (fun _ => some (nI (bsn (stk A) 8))) 8 (fun _ => True) (fun k _ => ?_) (fun k i hi _ hk => ?_) fu 0 (by omega) (by omega) trivial
    · show s_X4_stuck_4 fu k SV SN _ _ = _
      unfold s_X4_stuck_4
      rw [if_pos (show (8 : Int32) ≤ nI 8 by decide)]
    · show s_X4_stuck_4 fu k SV SN _ _ = _
      have hk := hk trivial
      rw [bsn_s] at hk
      unfold s_X4_stuck_4
      rw [if_neg (i8 hi), c_alive hA hC fu hi]
      simp only [bd]
      rw [nI_1, bit_one i (by omega)]
      by_cases h : al A i = true
      · have w := c_oor hA hC fu h (show 0 ≤ 99 by omega)
        have := (hA.2.1 i h).2.1
        rw [show min 99 (A 1 i + 0) = A 1 i by omega] at w
        rw [if_pos h, if_neg n10, show f_X3_isOutOfReach fu SN (nI i) (0 : Int32) = _ from w]
        simp only []
        by_cases q : clm (A 0 i) (A 1 i) < A 2 i
        · rw [if_pos (by simp [stk, h, q])] at hk
          rw [if_pos q, if_neg n10, fa_or]; exact hk
        · rw [if_neg (by simp [stk, h, q])] at hk
          rw [if_neg q, if_pos rfl]; exact hk
      · rw [if_neg (by simp [stk, h])] at hk
        rw [if_neg h, if_pos rfl]; exact hk
  · rw [← e8]
    refine itr_for (fun _ _ => none) (fun k => s_X5_stuck_4 fu k SM) (fun i k => k (nI (bsn (stk A) i)) (nI i)) (fun _ => some (nI (bsn (stk A) (A 6 0)))) (A 6 0) (fun _ => True) (fun k _ => ?_) (fun k i hi _ hk => ?_) fu 0 (by omega) (by omega) trivial
    · show s_X5_stuck_4 fu k SM _ _ = _
      unfold s_X5_stuck_4
      rw [hM.1, if_pos (nI_le (Nat.le_refl _) (by omega))]
    · show s_X5_stuck_4 fu k SM _ _ = _
      have hk := hk trivial
      rw [bsn_s] at hk
      obtain ⟨kk, aa, k5, a99, d1, d2⟩ := hD i hi
      have hc := clm_b kk (by omega) aa (by omega)
      unfold s_X5_stuck_4
      simp only [gd_in (show i < 8 by omega) (show 8 < 2 ^ 31 by omega), nI_clamp (show i < 2 ^ 31 by omega)]
      rw [hM.1, if_neg (nI_ge hi (by omega)), d1, d2, m_cl fu k5 a99, (hM.2.2 i hi).1, nI_1, bit_one i (by omega)]
      simp only [bd]
      by_cases h : al A i = true
      · obtain ⟨p1, p2, -, -⟩ := (hM.2.2 i hi).2 h
        obtain ⟨b0, b1, b2, -, -⟩ := hA.2.1 i h
        have g1 : kk = A 0 i := (nI_eq (by omega) (by omega)).mp (d1.symm.trans p1)
        have g2 : aa = A 1 i := (nI_eq (by omega) (by omega)).mp (d2.symm.trans p2)
        subst g1 g2
        rw [fI, if_pos h]
        by_cases q : clm (A 0 i) (A 1 i) < A 2 i
        · rw [if_pos (by simp [stk, h, q])] at hk
          rw [if_neg (nI_ge q (by omega)), fa_or]; exact hk
        · rw [if_neg (by simp [stk, h, q])] at hk
          rw [if_pos (nI_le (by omega) (by omega)), nI_or0]; exact hk
      · rw [if_neg (by simp [stk, h])] at hk
        rw [fI, if_neg h, if_pos, nI_or0]
        · exact hk
        · refine (fa_le _ _).mpr ?_
          rw [nI_toInt (by omega)]
          have : (-1 : Int32).toInt = -1 := rfl
          omega
