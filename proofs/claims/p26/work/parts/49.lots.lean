/-! what was put away at a place comes back -/
theorem back_w {SM : S32} {A : AB} (hn : A 6 0 ≤ 8) (hM : MT SM A) (hD : DM (SM 1) (SM 2) (A 6 0)) (fu : Nat) (hfu : 9 ≤ fu) {w : Nat} (hw : w = 0 ∨ w = 1 ∨ w = 2) {M : S32} (h17 : ∀ k, k < 42 → M 17 (43 * w + k) = im SM k) : ∃ T : S32, f_X5_passesAll fu M (nI w) 0 = some T ∧ MT T A ∧ DM (T 1) (T 2) (A 6 0) ∧ ∀ a, a ≠ 1 → a ≠ 2 → a ≠ 3 → a ≠ 4 → a ≠ 5 → a ≠ 6 → a ≠ 7 → a ≠ 19 → a ≠ 20 → T a = M a := by
  obtain ⟨T, t1, t2, t3⟩ := pa_back fu hfu M w hw
  have e : ∀ k, k < 42 → im T k = im SM k := fun k hk => (t3 k hk).trans (h17 k hk)
  exact ⟨T, t1, (MT_im hn).mp (MTi_cong hn e ((MT_im hn).mpr hM)), im_DM hn (DM_cong hn e (DM_im hn hD)), t2⟩
theorem set_drop {p : Nat → Bool} {j : Nat} (hj : j < 8) : (nI (bsn p 8) &&& (nI (2 ^ j) ^^^ (-1 : Int32))) = nI (bsn (fun i => p i && !decide (i = j)) 8) := by
  rw [show (-1 : Int32) = nI (2 ^ 32 - 1) from rfl, fb_xorI, fa_and]
  congr 1
  apply Nat.eq_of_testBit_eq
  intro i
  rw [Nat.testBit_and, Nat.testBit_xor, Nat.testBit_two_pow_sub_one, Nat.testBit_two_pow, bsn_test, bsn_test]
  by_cases h : i < 8
  · have h32 : i < 32 := by omega
    by_cases q : i = j
    · subst q; simp [h, h32]
    · have q2 : ¬ j = i := fun w => q w.symm
      simp [h, h32, q, q2]
  · simp [h]
def zn (z : Int32) : Int32 := z * (1664525 : Int32) + (1013904223 : Int32)
def dw (z : Int32) : Int32 := (((zn z &&& (2147483647 : Int32)) / (256 : Int32)) - ((zn z &&& (2147483647 : Int32)) / (256 : Int32)) / (10 : Int32) * (10 : Int32))
theorem lo_inner {SN M : S32} {A B : AB} (hA : OKA A) (hC : CT SN A) (hB : OKA B) (hM : MT M B) (e6 : B 6 0 = A 6 0) {y : Nat} (hy : y ≤ 99) (hAB : ∀ i, al B i = true → al A i = true ∧ B 0 i = A 0 i ∧ B 1 i = min 99 (A 1 i + y)) (fu : Nat) (k11 : Int32 → Int32 → Int32 → Int32 → Option Int32) (k30 : Int32 → Int32 → Int32 → S32 → Option (Int32 × S32)) (n : Int32) : ∀ d j m1 m2 z D, j + d = A 6 0 → 8 < m1 + j → 8 < m2 + j → inA B D → (∀ i, D.testBit i = true → i < j) → ∃ z' D', inA B D' ∧ f_X3_livingByLot_20 fu k11 SN m1 n (nI (bsn (al (yr B D)) 8)) z (nI y) (nI j) = k11 n (nI (bsn (al (yr B D')) 8)) z' (nI (y + 1)) ∧ f_X5_lots_42 fu k30 m2 n z (nI y) (nI D) (nI j) M = f_X5_lots_114 fu k30 n z' (nI y) (nI D') M := by
  have hn := hA.1
  have tail : ∀ z D m j, A 6 0 ≤ j → j ≤ 8 → 8 < m + j → f_X3_livingByLot_20 fu k11 SN m n (nI (bsn (al (yr B D)) 8)) z (nI y) (nI j) = k11 n (nI (bsn (al (yr B D)) 8)) z (nI (y + 1)) := by
    intro z D m j hj h8 hm
    refine itr_for (fun _ _ _ _ _ => none) (fun k => s_X3_livingByLot_20 fu k11 k SN) (fun j k => k n (nI (bsn (al (yr B D)) 8)) z (nI y) (nI j)) (fun _ => k11 n (nI (bsn (al (yr B D)) 8)) z (nI (y + 1))) 8 (fun j => A 6 0 ≤ j) (fun k _ => ?_) (fun k j hj hP hk => ?_) m j h8 hm hj
    · show s_X3_livingByLot_20 fu k11 k SN _ _ _ _ _ = _
      unfold s_X3_livingByLot_20
      rw [if_pos (show (8 : Int32) ≤ nI 8 by decide), nI_1]
    · show s_X3_livingByLot_20 fu k11 k SN _ _ _ _ _ = _
      unfold s_X3_livingByLot_20
      rw [if_neg (i8 hj), holds_is fu (bsn_lt _ 8) hj, bsn_test, al_yr, al_f (show B 6 0 ≤ j by omega)]
      simp only [bd]
      rw [nI_1]
      simpa using hk (by omega)
  intro d
  induction d with
  | zero =>
    intro j m1 m2 z D hj h1 h2 hD hDj
    obtain ⟨m2, rfl⟩ : ∃ k, m2 = k + 1 := ⟨m2 - 1, by omega⟩
    refine ⟨z, D, hD, tail z D m1 j (by omega) (by omega) h1, ?_⟩
    show s_X5_lots_42 fu k30 _ _ _ _ _ _ _ = _
    unfold s_X5_lots_42
    rw [hM.1, if_pos (nI_le (by omega) (by omega))]
  | succ d ih =>
    intro j m1 m2 z D hj h1 h2 hD hDj
    have hj8 : j < 8 := by omega
    obtain ⟨m1, rfl⟩ : ∃ k, m1 = k + 1 := ⟨m1 - 1, by omega⟩
    obtain ⟨m2, rfl⟩ : ∃ k, m2 = k + 1 := ⟨m2 - 1, by omega⟩
    have e1 : f_X3_livingByLot_20 fu k11 SN (m1 + 1) n (nI (bsn (al (yr B D)) 8)) z (nI y) (nI j) = s_X3_livingByLot_20 fu k11 (f_X3_livingByLot_20 fu k11 SN m1) SN n (nI (bsn (al (yr B D)) 8)) z (nI y) (nI j) := rfl
    have e2 : f_X5_lots_42 fu k30 (m2 + 1) n z (nI y) (nI D) (nI j) M = s_X5_lots_42 fu k30 (f_X5_lots_42 fu k30 m2) n z (nI y) (nI D) (nI j) M := rfl
    rw [e1, e2]
    unfold s_X3_livingByLot_20 s_X5_lots_42 lt
    have hDf : D.testBit j = false := by
      cases hq : D.testBit j with
      | false => rfl
      | true => have := hDj j hq; omega
    rw [if_neg (i8 hj8), holds_is fu (bsn_lt _ 8) hj8, bsn_test, al_yr, hDf, hM.1, if_neg (nI_ge (show j < B 6 0 by omega) (by omega)), gd_in hj8 (by omega), nI_clamp (by omega), (hM.2.2 j (by omega)).1, show decide (j < 8) = true by simpa using hj8]
    simp only [bd, nI_1, Bool.not_false, Bool.and_true, Bool.true_and]
    by_cases ha : al B j = true
    · obtain ⟨a1, a2, a3⟩ := hAB j ha
      rw [if_pos ha, if_neg n10, if_pos (fI_p hB ha), c_ch hA hC fu a1 hy, m_ch hB hM fu ha, a2, a3]
      simp only []
      by_cases q : nI (chn (A 0 j) (min 99 (A 1 j + y))) ≤ dw z
      · unfold dw zn at q
        rw [if_pos q, if_pos q, nI_or0]
        exact ih (j + 1) m1 m2 (zn z) D (by omega) (by omega) (by omega) hD (fun i hi => by have := hDj i hi; omega)
      · unfold dw zn at q
        rw [if_neg q, if_neg q, bit_one j (by omega), fa_or, set_drop hj8]
        rw [bsn_cong (q := al (yr B (D ||| 2 ^ j))) (fun i _ => by
          rw [al_yr, al_yr, fb_bit_set, Bool.not_or, Bool.and_assoc])]
        refine ih (j + 1) m1 m2 (zn z) (D ||| 2 ^ j) (by omega) (by omega) (by omega) ⟨Nat.or_lt_two_pow (n := 8) hD.1 (Nat.pow_lt_pow_right (a := 2) (by omega) hj8), fun i hi => ?_⟩ (fun i hi => ?_)
        · rw [fb_bit_set, Bool.or_eq_true, decide_eq_true_eq] at hi
          rcases hi with hi | rfl
          · exact hD.2 i hi
          · exact ha
        · rw [fb_bit_set, Bool.or_eq_true, decide_eq_true_eq] at hi
          rcases hi with hi | rfl
          · have := hDj i hi; omega
          · omega
    · rw [if_neg ha, if_pos rfl, if_neg (fI_n ha)]
      exact ih (j + 1) m1 m2 z D (by omega) (by omega) (by omega) hD (fun i hi => by have := hDj i hi; omega)
theorem inA_0 (A : AB) : inA A 0 := ⟨by omega, fun i hi => by rw [Nat.zero_testBit] at hi; cases hi⟩
theorem lo_outer {SN SM M0 : S32} {A : AB} (hA : OKA A) (hC : CT SN A) (hMA : MT SM A) (hDA : DM (SM 1) (SM 2) (A 6 0)) (h17 : ∀ k, k < 42 → M0 17 (43 * 1 + k) = im SM k) (fu : Nat) (hfu : 1000 ≤ fu) {n : Nat} (hn40 : n ≤ 40) : ∀ d y m1 m2 z B M, y + d = n → 50 < m1 + y → 50 < m2 + y → OKA B → B 6 0 = A 6 0 → (∀ i, al B i = true → al A i = true ∧ B 0 i = A 0 i ∧ B 1 i = min 99 (A 1 i + y)) → MT M B → (∀ a, a ≠ 2 → a ≠ 3 → a ≠ 7 → a ≠ 21 → M a = M0 a) → ∃ v N, f_X3_livingByLot_11 fu SN m1 (nI n) (nI (bsn (al B) 8)) z (nI y) = some v ∧ f_X5_lots_30 fu m2 (nI n) z (nI y) M = some (v, N) ∧ MT N A ∧ DM (N 1) (N 2) (A 6 0) ∧ ∀ a, a ≠ 1 → a ≠ 2 → a ≠ 3 → a ≠ 4 → a ≠ 5 → a ≠ 6 → a ≠ 7 → a ≠ 19 → a ≠ 20 → a ≠ 21 → N a = M0 a := by
  have hn := hA.1
  intro d
  induction d with
  | zero =>
    intro y m1 m2 z B M hy h1 h2 hB e6 hAB hM hfr
    obtain ⟨m1, rfl⟩ : ∃ k, m1 = k + 1 := ⟨m1 - 1, by omega⟩
    obtain ⟨m2, rfl⟩ : ∃ k, m2 = k + 1 := ⟨m2 - 1, by omega⟩
    obtain ⟨T, t1, t2, t3, t4⟩ := back_w hn hMA hDA fu (by omega) (w := 1) (Or.inr (Or.inl rfl)) (M := M) (fun k hk => by rw [hfr 17 (by decide) (by decide) (by decide) (by decide)]; exact h17 k hk)
    refine ⟨nI (bsn (al B) 8), T, ?_, ?_, t2, t3, fun a a1 a2 a3 a4 a5 a6 a7 a19 a20 a21 => (t4 a a1 a2 a3 a4 a5 a6 a7 a19 a20).trans (hfr a a2 a3 a7 a21)⟩
    · show s_X3_livingByLot_11 fu _ SN _ _ _ _ = _
      unfold s_X3_livingByLot_11
      rw [if_pos (nI_le (by omega) (by omega))]
    · show s_X5_lots_30 fu _ _ _ _ _ = _
      unfold s_X5_lots_30 f_X5_lots_127
      rw [if_pos (nI_le (by omega) (by omega)), m_living hB hM fu (by omega)]
      simp only [bd]
      rw [show f_X5_passesAll fu M (1 : Int32) (0 : Int32) = some T from t1]
  | succ d ih =>
    intro y m1 m2 z B M hy h1 h2 hB e6 hAB hM hfr
    obtain ⟨m1, rfl⟩ : ∃ k, m1 = k + 1 := ⟨m1 - 1, by omega⟩
    obtain ⟨m2, rfl⟩ : ∃ k, m2 = k + 1 := ⟨m2 - 1, by omega⟩
    obtain ⟨z', D', hD', i1, i2⟩ := lo_inner hA hC hB hM e6 (show y ≤ 99 by omega) hAB fu (f_X3_livingByLot_11 fu SN m1) (f_X5_lots_30 fu m2) (nI n) (A 6 0) 0 fu fu z 0 (by omega) (by omega) (by omega) (inA_0 B) (fun i hi => by rw [Nat.zero_testBit] at hi; cases hi)
    have e1 : f_X3_livingByLot_11 fu SN (m1 + 1) (nI n) (nI (bsn (al B) 8)) z (nI y) = f_X3_livingByLot_20 fu (f_X3_livingByLot_11 fu SN m1) SN fu (nI n) (nI (bsn (al (yr B 0)) 8)) z (nI y) (nI 0) := by
      show s_X3_livingByLot_11 fu _ SN _ _ _ _ = _
      unfold s_X3_livingByLot_11
      rw [if_neg (nI_ge (by omega) (by omega)), bsn_cong (p := al (yr B 0)) (q := al B) (fun i _ => by rw [al_yr, Nat.zero_testBit]; simp)]
      rfl
    have e2 : f_X5_lots_30 fu (m2 + 1) (nI n) z (nI y) M = f_X5_lots_42 fu (f_X5_lots_30 fu m2) fu (nI n) z (nI y) (nI 0) (nI 0) M := by
      show s_X5_lots_30 fu _ _ _ _ _ = _
      unfold s_X5_lots_30
      rw [if_neg (nI_ge (by omega) (by omega))]
      rfl
    rw [e1, e2, i1, i2]
    unfold f_X5_lots_114
    obtain ⟨N, n1, n2, n3, -⟩ := m_year hB hM fu (by omega) hD'
    rw [n1]
    simp only [bd]
    rw [nI_1]
    refine ih (y + 1) m1 m2 z' (yr B D') N (by omega) (by omega) (by omega) (OKA_yr hB hD') e6 (fun i hi => ?_) n2 (fun a a2 a3 a7 a21 => (n3 a a2 a3 a7 a21).trans (hfr a a2 a3 a7 a21))
    rw [al_yr, Bool.and_eq_true] at hi
    obtain ⟨w1, w2, w3⟩ := hAB i hi.1
    refine ⟨w1, w2, ?_⟩
    show min 99 (B 1 i + 1) = min 99 (A 1 i + (y + 1))
    rw [w3]; omega
theorem T_lots {SV SN SK SL SM : S32} (h : RR SV SN SK SL SM) (fu : Nat) (hfu : 1000 ≤ fu) (x z : Int32) : ∃ o1 o2, f_X4_lots fu SV SN x z = some o1 ∧ f_X5_lots fu SM x z = some o2 ∧ o1.1 = o2.1 ∧ RR o1.2 SN SK SL o2.2 := by
  obtain ⟨A, hA, h99, hC, hM, hD⟩ := h.1
  have hn := hA.1
  obtain ⟨V4, M4, c4, m4, r4⟩ := ref_k h fu (x := -4) (k := 4) rfl (by omega) (by omega)
  obtain ⟨V6, M6, c6, m6, r6⟩ := ref_k h fu (x := -6) (k := 6) rfl (by omega) (by omega)
  unfold f_X4_lots f_X5_lots
  rcases bound_any fu x 1 40 (by omega) (by omega) with ⟨-, h2, e⟩ | ⟨j, hj1, hj, rfl, h3, h5, -, e⟩ | ⟨h1, h2, -, e⟩
  · rw [if_neg (show ¬ (1 : Int32) ≤ x from h2), show f_X5_bound fu x (1 : Int32) (40 : Int32) = some (-4) from e, c4]
    simp only [bd]
    rw [if_neg (by decide), m4]
    exact ⟨_, _, rfl, rfl, rfl, r4⟩
  · obtain ⟨N, n1, n2, n3, n4, n5, n6⟩ := pa_keep fu (by omega) SM 1 (Or.inr (Or.inl rfl))
    have hN : MT N A := MT_fr0 hM (fun a _ _ => n2 a (by omega) (by omega) (by omega) (by omega) (by omega)) n3 n4
    obtain ⟨v, T, t1, t2, t3, t4, t5⟩ := lo_outer hA hC hM hD n5 fu hfu hj j 0 fu fu z A N (by omega) (by omega) (by omega) hA rfl (fun i hi => ⟨hi, rfl, by have := (hA.2.1 i hi).2.1; omega⟩) hN (fun _ _ _ _ _ => rfl)
    rw [if_pos (show (1 : Int32) ≤ nI j from h3), if_pos (show nI j ≤ (40 : Int32) from h5), show f_X5_bound fu (nI j) (1 : Int32) (40 : Int32) = some 0 from e]
    unfold f_X3_livingByLot
    rw [c_living hA hC fu (by omega)]
    simp only [bd, ↓reduceIte]
    rw [show f_X3_livingByLot_11 fu SN fu (nI j) (nI (bsn (al A) 8)) z (0 : Int32) = some v from t1, show f_X5_passesAll fu SM (1 : Int32) (1 : Int32) = some N from n1]
    simp only []
    rw [show f_X5_lots_30 fu fu (nI j) z (0 : Int32) N = some (v, T) from t2]
    have fr : ∀ a, a ≠ 1 → a ≠ 2 → a ≠ 3 → a ≠ 4 → a ≠ 5 → a ≠ 6 → a ≠ 7 → a ≠ 17 → a ≠ 19 → a ≠ 20 → a ≠ 21 → T a = SM a := fun a a1 a2 a3 a4 a5 a6 a7 a17 a19 a20 a21 => (t5 a a1 a2 a3 a4 a5 a6 a7 a19 a20 a21).trans (n2 a a6 a7 a17 a19 a20)
    refine ⟨_, _, rfl, rfl, rfl, ⟨A, hA, h99, hC, t3, t4⟩, RRow_fr h.2.1 rfl rfl (fr 22 (by decide) (by decide) (by decide) (by decide) (by decide) (by decide) (by decide) (by decide) (by decide) (by decide) (by decide)) (fr 23 (by decide) (by decide) (by decide) (by decide) (by decide) (by decide) (by decide) (by decide) (by decide) (by decide) (by decide)), RLet_fr h.2.2.1 (fr 8 (by decide) (by decide) (by decide) (by decide) (by decide) (by decide) (by decide) (by decide) (by decide) (by decide) (by decide)) (fr 14 (by decide) (by decide) (by decide) (by decide) (by decide) (by decide) (by decide) (by decide) (by decide) (by decide) (by decide)), RRef_fr h.2.2.2.1 rfl (fr 0 (by decide) (by decide) (by decide) (by decide) (by decide) (by decide) (by decide) (by decide) (by decide) (by decide) (by decide)), RIm_fr h.2.2.2.2 rfl (fr 18 (by decide) (by decide) (by decide) (by decide) (by decide) (by decide) (by decide) (by decide) (by decide) (by decide) (by decide)) (fun i hi => ?_)⟩
    show T 17 i = SM 17 i
    rw [t5 17 (by decide) (by decide) (by decide) (by decide) (by decide) (by decide) (by decide) (by decide) (by decide) (by decide)]
    exact n6 i (by omega)
  · rw [if_pos (show (1 : Int32) ≤ x from h1), if_neg (show ¬ x ≤ (40 : Int32) from h2), show f_X5_bound fu x (1 : Int32) (40 : Int32) = some (-6) from e, c6]
    simp only [bd]
    rw [if_neg (by decide), m6]
    exact ⟨_, _, rfl, rfl, rfl, r6⟩
