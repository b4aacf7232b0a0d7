/-! by whose deaths -/
def cnd (A : AB) (i c b : Nat) : Prop := al A b = true ∧ c.testBit b = false ∧ A 2 i < A 2 b
theorem lk_tail {SN : S32} {A : AB} (hA : OKA A) (hC : CT SN A) (fu : Nat) (k5 : Int32 → Int32 → Int32 → Int32 → Option Int32) (x1 x2 x3 x4 x5 : Int32) : ∀ m j, A 6 0 ≤ j → j ≤ 8 → 8 < m + j → f_X3_likeliestAbove_24 fu k5 SN m x1 x2 x3 x4 x5 (nI j) = f_X3_likeliestAbove_100 fu k5 SN x1 x2 x3 x4 x5 := by
  intro m j hj h8 hm
  refine itr_for (fun _ _ _ _ _ _ => none) (fun k => s_X3_likeliestAbove_24 fu k5 k SN) (fun j k => k x1 x2 x3 x4 x5 (nI j)) (fun _ => f_X3_likeliestAbove_100 fu k5 SN x1 x2 x3 x4 x5) 8 (fun j => A 6 0 ≤ j) (fun k _ => ?_) (fun k j hj hP hk => ?_) m j h8 hm hj
  · show s_X3_likeliestAbove_24 fu k5 k SN _ _ _ _ _ _ = _
    unfold s_X3_likeliestAbove_24
    rw [if_pos (show (8 : Int32) ≤ nI 8 by decide)]
  · show s_X3_likeliestAbove_24 fu k5 k SN _ _ _ _ _ _ = _
    unfold s_X3_likeliestAbove_24
    rw [if_neg (i8 hj), c_alive hA hC fu hj, al_f hP]
    simp only [bd]
    rw [nI_1]
    simpa using hk (by omega)
theorem lk_inner {SN SM : S32} {A : AB} (hA : OKA A) (hC : CT SN A) (hM : MT SM A) (fu : Nat) (k5 : Int32 → Int32 → Int32 → Int32 → Option Int32) (k81 : Int32 → Int32 → Int32 → Int32 → Int32 → S32 → Option (Int32 × S32)) {i c n : Nat} (hi : al A i = true) (hc : c < 256) (x2 x3 : Int32) : ∀ d j m1 m2 best best', j + d = A 6 0 → 8 < m1 + j → 8 < m2 + j → ((best = -1 ∧ best' = -9 ∧ ∀ b, b < j → ¬ cnd A i c b) ∨ ∃ b, cnd A i c b ∧ best = nI b ∧ best' = nI b) →
    (∃ b, cnd A i c b ∧ f_X3_likeliestAbove_24 fu k5 SN m1 (nI i) x2 (nI c) (nI n) best (nI j) = k5 (nI i) x2 (nI (c ||| 2 ^ b)) (nI (n + 1)) ∧ f_X5_deaths_95 fu k81 m2 (nI i) x3 x2 (nI c) (nI n) best' (nI j) SM = k81 (nI i) x3 x2 (nI (c ||| 2 ^ b)) (nI (n + 1)) SM) ∨ ((∀ b, ¬ cnd A i c b) ∧ f_X5_deaths_95 fu k81 m2 (nI i) x3 x2 (nI c) (nI n) best' (nI j) SM = some (-9, SM)) := by
  have hn := hA.1
  have hi8 := al_lt8 hA hi
  have hfi := (hA.2.1 i hi).2.2.1
  intro d
  induction d with
  | zero =>
    intro j m1 m2 best best' hj h1 h2 hst
    rw [lk_tail hA hC fu k5 _ _ _ _ _ m1 j (by omega) (by omega) h1]
    obtain ⟨m2, rfl⟩ : ∃ k, m2 = k + 1 := ⟨m2 - 1, by omega⟩
    have e : f_X5_deaths_95 fu k81 (m2 + 1) (nI i) x3 x2 (nI c) (nI n) best' (nI j) SM = f_X5_deaths_160 fu k81 (nI i) x3 x2 (nI c) (nI n) best' SM := by
      show s_X5_deaths_95 fu k81 _ _ _ _ _ _ _ _ _ = _
      unfold s_X5_deaths_95
      rw [hM.1, if_pos (nI_le (by omega) (by omega))]
    rw [e]
    unfold f_X3_likeliestAbove_100 f_X5_deaths_160
    rcases hst with ⟨-, rfl, hno⟩ | ⟨b, hb, rfl, rfl⟩
    · right
      refine ⟨fun b w => ?_, if_neg (by decide)⟩
      have := al_lt w.1
      exact hno b (by omega) w
    · left
      have := al_lt8 hA hb.1
      refine ⟨b, hb, ?_, ?_⟩
      · rw [if_neg (nI_nn (by omega)), bit_one b (by omega), fa_or, nI_1]
      · rw [if_pos (nI_p (by omega)), bit_one b (by omega), fa_or, nI_1]
  | succ d ih =>
    intro j m1 m2 best best' hj h1 h2 hst
    have hj8 : j < 8 := by omega
    obtain ⟨m1, rfl⟩ : ∃ k, m1 = k + 1 := ⟨m1 - 1, by omega⟩
    obtain ⟨m2, rfl⟩ : ∃ k, m2 = k + 1 := ⟨m2 - 1, by omega⟩
    have ih := fun best best' q => ih (j + 1) m1 m2 best best' (by omega) (by omega) (by omega) q
    have skip : ¬ cnd A i c j → ((best = -1 ∧ best' = -9 ∧ ∀ b, b < j + 1 → ¬ cnd A i c b) ∨ ∃ b, cnd A i c b ∧ best = nI b ∧ best' = nI b) := by
      intro hno
      rcases hst with ⟨w1, w2, w3⟩ | w
      · refine Or.inl ⟨w1, w2, fun b hb => ?_⟩
        by_cases q : b = j
        · rw [q]; exact hno
        · exact w3 b (by omega)
      · exact Or.inr w
    have e1 : f_X3_likeliestAbove_24 fu k5 SN (m1 + 1) (nI i) x2 (nI c) (nI n) best (nI j) = s_X3_likeliestAbove_24 fu k5 (f_X3_likeliestAbove_24 fu k5 SN m1) SN (nI i) x2 (nI c) (nI n) best (nI j) := rfl
    have e2 : f_X5_deaths_95 fu k81 (m2 + 1) (nI i) x3 x2 (nI c) (nI n) best' (nI j) SM = s_X5_deaths_95 fu k81 (f_X5_deaths_95 fu k81 m2) (nI i) x3 x2 (nI c) (nI n) best' (nI j) SM := rfl
    rw [e1, e2]
    unfold s_X3_likeliestAbove_24 s_X5_deaths_95
    rw [if_neg (i8 hj8), hM.1, if_neg (nI_ge (show j < A 6 0 by omega) (by omega)), c_alive hA hC fu hj8, holds_is fu hc hj8, bit_get c hc j hj8]
    simp only [bd, gd_in hj8 (show 8 < 2 ^ 31 by omega), gd_in hi8 (show 8 < 2 ^ 31 by omega), nI_clamp (show i < 2 ^ 31 by omega), nI_clamp (show j < 2 ^ 31 by omega), (hM.2.2 i (al_lt hi)).1, (hM.2.2 j (show j < A 6 0 by omega)).1, (hC.2.2 i (al_lt hi)).1, (hC.2.2 j (show j < A 6 0 by omega)).1, nI_1]
    rw [show fI A i = nI (A 2 i) by rw [fI, if_pos hi]]
    by_cases ha : al A j = true
    · have hfj := (hA.2.1 j ha).2.2.1
      rw [if_pos ha, if_neg n10, show fI A j = nI (A 2 j) by rw [fI, if_pos ha]]
      by_cases hb : c.testBit j = true
      · simp only [if_pos hb, if_neg n10]
        have sk := ih best best' (skip (fun w => by have w1 := w.2.1; rw [hb] at w1; cases w1))
        by_cases q : nI (A 2 j) ≤ nI (A 2 i)
        · rw [if_pos q]; exact sk
        · rw [if_neg q]; exact sk
      · have hb2 : c.testBit j = false := by simpa using hb
        simp only [if_neg hb, ↓reduceIte]
        by_cases q : A 2 i < A 2 j
        · have hcj : cnd A i c j := ⟨ha, hb2, q⟩
          rw [if_pos ((nI_ltI (by omega) (by omega)).mpr q), if_neg (nI_ge q (by omega))]
          have goj := ih (nI j) (nI j) (Or.inr ⟨j, hcj, rfl, rfl⟩)
          rcases hst with ⟨rfl, rfl, -⟩ | ⟨b, hcb, rfl, rfl⟩
          · rw [if_pos (show (-1 : Int32) < 0 by decide), if_pos (show (-9 : Int32) < 0 by decide)]
            exact goj
          · have hb8 := al_lt8 hA hcb.1
            rw [if_neg (nI_nn (by omega)), if_neg (nI_nn (by omega)), c_ch' hA hC fu ha, c_ch' hA hC fu hcb.1, show f_X5_chanceOf fu SM (nI j) = some (nI (mch A j)) from m_ch hA hM fu ha, show f_X5_chanceOf fu SM (nI b) = some (nI (mch A b)) from m_ch hA hM fu hcb.1]
            simp only []
            by_cases q2 : nI (mch A j) ≤ nI (mch A b)
            · simp only [if_pos q2]
              exact ih (nI b) (nI b) (Or.inr ⟨b, hcb, rfl, rfl⟩)
            · simp only [if_neg q2]
              exact goj
        · rw [if_neg (fun w => q ((nI_ltI (by omega) (by omega)).mp w)), if_pos (nI_le (by omega) (by omega))]
          exact ih best best' (skip (fun w => q w.2.2))
    · rw [if_neg ha, if_pos rfl, show fI A j = -1 by rw [fI, if_neg ha], if_pos (show (-1 : Int32) ≤ nI (A 2 i) from (fa_le _ _).mpr (by rw [nI_toInt (by omega)]; have : (-1 : Int32).toInt = -1 := rfl; omega))]
      exact ih best best' (skip (fun w => ha w.1))
theorem lk_outer {SN SM : S32} {A : AB} (hA : OKA A) (hC : CT SN A) (hM : MT SM A) (fu : Nat) (hfu : 1000 ≤ fu) {i need : Nat} (hi : al A i = true) (hn9 : need ≤ 9) (x3 : Int32) : ∀ d n c m1 m2, n + d = need → 20 < m1 + n → 20 < m2 + n → c < 256 → fb_ct (fun b => c.testBit b) 8 = n → (∀ b, c.testBit b = true → al A b = true ∧ A 2 i < A 2 b) → (need ≤ abv A (bsn (al A) 8) i → ∃ v, f_X3_likeliestAbove_5 fu SN m1 (nI i) (nI need) (nI c) (nI n) = some v ∧ f_X5_deaths_81 fu m2 (nI i) x3 (nI need) (nI c) (nI n) SM = some (if x3 = 0 then nI need else v, SM)) ∧ (¬ need ≤ abv A (bsn (al A) 8) i → f_X5_deaths_81 fu m2 (nI i) x3 (nI need) (nI c) (nI n) SM = some (-9, SM)) := by
  have hn := hA.1
  have hi8 := al_lt8 hA hi
  have sub : ∀ c : Nat, (∀ b, c.testBit b = true → al A b = true ∧ A 2 i < A 2 b) → fb_ct (fun b => c.testBit b) 8 ≤ abv A (bsn (al A) 8) i := by
    intro c h
    unfold abv
    refine fb_ct_sub (fun k hk hb => ?_)
    obtain ⟨w1, w2⟩ := h k hb
    rw [bsn_test]; simp [hk, w1, w2]
  intro d
  induction d with
  | zero =>
    intro n c m1 m2 hnd h1 h2 hc hct hsub
    obtain ⟨m1, rfl⟩ : ∃ k, m1 = k + 1 := ⟨m1 - 1, by omega⟩
    obtain ⟨m2, rfl⟩ : ∃ k, m2 = k + 1 := ⟨m2 - 1, by omega⟩
    refine ⟨fun _ => ⟨nI c, ?_, ?_⟩, fun w => ?_⟩
    · show s_X3_likeliestAbove_5 fu _ SN _ _ _ _ = _
      unfold s_X3_likeliestAbove_5
      rw [if_pos (nI_le (by omega) (by omega))]
    · show s_X5_deaths_81 fu _ _ _ _ _ _ _ = _
      unfold s_X5_deaths_81 f_X5_deaths_183
      rw [if_pos (nI_le (by omega) (by omega))]
      split <;> rfl
    · have := sub c hsub
      omega
  | succ d ih =>
    intro n c m1 m2 hnd h1 h2 hc hct hsub
    have hle := sub c hsub
    have hn8 : n < 8 := by
      rcases Nat.lt_or_ge n 8 with w | w
      · exact w
      · have hle8 := fb_ct_le (fun b => c.testBit b) 8
        have hall := fb_ct_all.mp (show fb_ct (fun b => c.testBit b) 8 = 8 by omega) i hi8
        have := (hsub i hall).2
        omega
    obtain ⟨m1, rfl⟩ : ∃ k, m1 = k + 1 := ⟨m1 - 1, by omega⟩
    obtain ⟨m2, rfl⟩ : ∃ k, m2 = k + 1 := ⟨m2 - 1, by omega⟩
    have e1 : f_X3_likeliestAbove_5 fu SN (m1 + 1) (nI i) (nI need) (nI c) (nI n) = f_X3_likeliestAbove_24 fu (f_X3_likeliestAbove_5 fu SN m1) SN fu (nI i) (nI need) (nI c) (nI n) (-1 : Int32) (nI 0) := by
      show s_X3_likeliestAbove_5 fu _ SN _ _ _ _ = _
      unfold s_X3_likeliestAbove_5
      rw [if_neg (nI_ge (by omega) (by omega)), if_neg (i8 hn8)]; rfl
    have e2 : f_X5_deaths_81 fu (m2 + 1) (nI i) x3 (nI need) (nI c) (nI n) SM = f_X5_deaths_95 fu (f_X5_deaths_81 fu m2) fu (nI i) x3 (nI need) (nI c) (nI n) (-9 : Int32) (nI 0) SM := by
      show s_X5_deaths_81 fu _ _ _ _ _ _ _ = _
      unfold s_X5_deaths_81
      rw [if_neg (nI_ge (by omega) (by omega))]; rfl
    rw [e1, e2]
    rcases lk_inner hA hC hM fu (f_X3_likeliestAbove_5 fu SN m1) (f_X5_deaths_81 fu m2) (n := n) hi hc (nI need) x3 (A 6 0) 0 fu fu (-1) (-9) (by omega) (by omega) (by omega) (Or.inl ⟨rfl, rfl, fun b hb => absurd hb (by omega)⟩) with ⟨b, ⟨b1, b2, b3⟩, f1, f2⟩ | ⟨hno, f2⟩
    · rw [f1, f2]
      have hb8 := al_lt8 hA b1
      refine ih (n + 1) (c ||| 2 ^ b) m1 m2 (by omega) (by omega) (by omega) (Nat.or_lt_two_pow (n := 8) hc (Nat.pow_lt_pow_right (a := 2) (by omega) hb8)) ?_ ?_
      · have w := fb_ct_upd (fun k => c.testBit k) true (i := b) (n := 8) hb8
        simp only [b2] at w
        rw [← hct]
        rw [fb_ct_cong (q := fun k => if k = b then true else c.testBit k) (fun k _ => by
          rw [fb_bit_set]
          by_cases q : k = b
          · simp [q]
          · simp [q])]
        simpa using w
      · intro k hk
        rw [fb_bit_set, Bool.or_eq_true, decide_eq_true_eq] at hk
        rcases hk with hk | rfl
        · exact hsub k hk
        · exact ⟨b1, b3⟩
    · rw [f2]
      refine ⟨fun w => ?_, fun _ => rfl⟩
      exfalso
      have : abv A (bsn (al A) 8) i ≤ fb_ct (fun b => c.testBit b) 8 := by
        unfold abv
        refine fb_ct_sub (fun k hk hb => ?_)
        rw [bsn_test] at hb
        simp only [Bool.and_eq_true, decide_eq_true_eq] at hb
        cases hq : c.testBit k with
        | true => rfl
        | false => exact absurd ⟨hb.1.2, hq, hb.2⟩ (hno k)
      omega
theorem T_deaths {SV SN SK SL SM : S32} (h : RR SV SN SK SL SM) (fu : Nat) (hfu : 1000 ≤ fu) (x y z : Int32) : ∃ o1 o2, f_X4_deaths fu SV SN x y z = some o1 ∧ f_X5_deaths fu SM x y z = some o2 ∧ o1.1 = o2.1 ∧ RR o1.2 SN SK SL o2.2 := by
  obtain ⟨A, hA, h99, hC, hM, hD⟩ := h.1
  have hn := hA.1
  obtain ⟨V1, M1, c1, m1, r1⟩ := ref_k h fu (x := -1) (k := 1) rfl (by omega) (by omega)
  obtain ⟨V2, M2, c2, m2, r2⟩ := ref_k h fu (x := -2) (k := 2) rfl (by omega) (by omega)
  unfold f_X4_deaths f_X5_deaths f_X4_deaths_18 f_X5_deaths_15
  rw [c1, c2, m1, m2]
  rcases alive_any hA hC hM fu x with ⟨i, hi, rfl, ha, e1, e2⟩ | ⟨e1, e2⟩
  · rw [e1, e2]
    simp only [bd]
    rw [if_neg n10, if_neg n10]
    rcases floor_any fu y with ⟨f, hf, rfl, e3, e4⟩ | ⟨e3, e4, -⟩
    · rw [e3, e4]
      simp only []
      rw [if_neg n10, if_neg n10]
      obtain ⟨b0, b1, b2, b3, b4⟩ := hA.2.1 i ha
      obtain ⟨p1, p2, p3, p4⟩ := (hM.2.2 i (al_lt ha)).2 ha
      have f1 := (hC.2.2 i (al_lt ha)).1
      have f2 := (hM.2.2 i (al_lt ha)).1
      rw [fI, if_pos ha] at f1 f2
      have key : (z = 0 ∨ z = 1) → ∃ o1 o2, f_X4_deaths_40 fu SN (nI i) (nI f) z SV = some o1 ∧ (gd (nI i) 8 ((if (nI f - (SM 3 (nI i).toNatClampNeg)) < (1 : Int32) then some ((-9 : Int32), SM) else (gd (nI i) 8 ((if (SM 1 (nI i).toNatClampNeg) = (3 : Int32) then (gd (nI i) 8 ((if (SM 3 (nI i).toNatClampNeg) = (0 : Int32) then some ((-9 : Int32), SM) else f_X5_deaths_81 fu fu (nI i) z (nI f - (SM 3 (nI i).toNatClampNeg)) (0 : Int32) (0 : Int32) SM))) else f_X5_deaths_81 fu fu (nI i) z (nI f - (SM 3 (nI i).toNatClampNeg)) (0 : Int32) (0 : Int32) SM)))))) = some o2 ∧ o1.1 = o2.1 ∧ RR o1.2 SN SK SL o2.2 := by
        intro hz
        unfold f_X4_deaths_40
        simp only [gd_in hi (show 8 < 2 ^ 31 by omega), nI_clamp (show i < 2 ^ 31 by omega), p1, f1, f2]
        by_cases q : f ≤ A 2 i
        · have ht := pk_sub_toInt (a := f) (b := A 2 i) (by omega) (by omega)
          rw [if_pos ((fa_le _ _).mpr (by rw [ht]; have : (0 : Int32).toInt = 0 := rfl; omega)), if_pos ((fa_lt _ _).mpr (by rw [ht]; have : (1 : Int32).toInt = 1 := rfl; omega))]
          exact ⟨_, _, rfl, rfl, rfl, h⟩
        · rw [pk_sub (show A 2 i ≤ f by omega), if_neg (nI_nle (by omega) (by omega)), if_neg (show ¬ nI (f - A 2 i) < (1 : Int32) from fun w => by have := (nI_ltI (b := 1) (by omega) (by omega)).mp w; omega), c_down hA hC fu ha]
          simp only [bd]
          have eF : (if nI (A 0 i) = (3 : Int32) then (if nI (A 2 i) = (0 : Int32) then some ((-9 : Int32), SM) else f_X5_deaths_81 fu fu (nI i) z (nI (f - A 2 i)) (0 : Int32) (0 : Int32) SM) else f_X5_deaths_81 fu fu (nI i) z (nI (f - A 2 i)) (0 : Int32) (0 : Int32) SM) = if A 0 i = 3 ∧ A 2 i = 0 then some ((-9 : Int32), SM) else f_X5_deaths_81 fu fu (nI i) z (nI (f - A 2 i)) (0 : Int32) (0 : Int32) SM := by
            by_cases q : A 0 i = 3
            · rw [if_pos (show nI (A 0 i) = (3 : Int32) by rw [q]; rfl)]
              by_cases q2 : A 2 i = 0
              · rw [if_pos (show nI (A 2 i) = (0 : Int32) by rw [q2]; rfl), if_pos ⟨q, q2⟩]
              · rw [if_neg (show ¬ nI (A 2 i) = (0 : Int32) from fun w => q2 ((nI_z (by omega)).mp w)), if_neg (fun w => q2 w.2)]
            · rw [if_neg (show ¬ nI (A 0 i) = (3 : Int32) from fun w => q ((nI_eq (b := 3) (by omega) (by omega)).mp w)), if_neg (fun w => q w.1)]
          rw [eF]
          by_cases qd : A 0 i = 3 ∧ A 2 i = 0
          · rw [if_pos qd, if_neg n10, if_pos qd]
            exact ⟨_, _, rfl, rfl, rfl, h⟩
          · rw [if_neg qd, if_pos rfl, if_neg qd, c_living hA hC fu (by omega)]
            simp only []
            rw [c_floors hA hC fu (by omega) inA_living]
            simp only []
            rw [c_up hA hC fu inA_living ha]
            simp only []
            have hab := abv_le A (bsn (al A) 8) i
            rw [show ups A (bsn (al A) 8) i = abv A (bsn (al A) 8) i by unfold ups; rw [if_neg qd]]
            obtain ⟨w1, w2⟩ := lk_outer hA hC hM fu hfu (need := f - A 2 i) ha (by omega) z (f - A 2 i) 0 0 fu fu (by omega) (by omega) (by omega) (by omega) (fb_ct_zero.mpr (fun k _ => Nat.zero_testBit k)) (fun b hb => by rw [Nat.zero_testBit] at hb; cases hb)
            by_cases q2 : f - A 2 i ≤ abv A (bsn (al A) 8) i
            · obtain ⟨v, g1, g2⟩ := w1 q2
              rw [if_pos (nI_le q2 (by omega)), show f_X5_deaths_81 fu fu (nI i) z (nI (f - A 2 i)) (0 : Int32) (0 : Int32) SM = _ from g2]
              by_cases q0 : z = 0
              · rw [if_pos q0, if_pos q0]
                exact ⟨_, _, rfl, rfl, rfl, h⟩
              · rw [if_neg q0, if_neg q0]
                unfold f_X3_likeliestAbove
                rw [show f_X3_likeliestAbove_5 fu SN fu (nI i) (nI (f - A 2 i)) (0 : Int32) (0 : Int32) = _ from g1]
                exact ⟨_, _, rfl, rfl, rfl, h⟩
            · rw [if_neg (fun w => q2 ((nI_leI (by omega) (by omega)).mp w)), show f_X5_deaths_81 fu fu (nI i) z (nI (f - A 2 i)) (0 : Int32) (0 : Int32) SM = _ from w2 q2]
              exact ⟨_, _, rfl, rfl, rfl, h⟩
      rcases in01 fu z with ⟨rfl, e⟩ | ⟨rfl, e⟩ | ⟨q0, q1, e⟩
      · rw [e, if_pos rfl]
        exact key (Or.inl rfl)
      · rw [e, if_neg n10, if_pos rfl]
        exact key (Or.inr rfl)
      · rw [e, if_neg q0, if_neg q1]
        exact ⟨_, _, rfl, rfl, rfl, r2⟩
    · rw [e3, e4]
      exact ⟨_, _, rfl, rfl, rfl, r1⟩
  · rw [e1, e2]
    exact ⟨_, _, rfl, rfl, rfl, r1⟩
