/-! fitting -/
theorem c_fits {SV SN SM : S32} {A : AB} (hA : OKA A) (hC : CT SN A) (hM : MT SM A) (fu : Nat) (hfu : 1000 ≤ fu) {r : Nat} (hr : r ≤ 8) (r1 : SV 7 0 = nI r) (hl : ∀ i, i < r → ∃ v, v ≤ 10 ∧ SV 6 i = nI v ∧ SM 22 i = nI v) (er : r = fb_ct (al A) 8) {s : Nat} (hs : inA A s) : ∃ v, (v = 0 ∨ v = 1) ∧ f_X4_fitsTheRow fu SV SN (nI s) = some v ∧ f_X5_doesFit fu SM (nI s) = some v := by
  have hn := hA.1
  have none_left : ∀ i, r ≤ fb_ct (al A) i → ∀ j, i ≤ j → al A j = false := by
    intro i hi j hj
    cases hq : al A j with
    | false => rfl
    | true =>
      have h8 := al_lt8 hA hq
      have w1 := fb_ct_mono (al A) hj
      have w2 := fb_ct_mono (al A) (show j + 1 ≤ 8 by omega)
      rw [fb_ct_succ, hq, if_pos rfl] at w2
      omega
  have tail1 : ∀ a m i, (∀ j, i ≤ j → al A j = false) → i ≤ 8 → 8 < m + i → f_X4_fitsTheRow_14 fu SV SN m (nI s) (nI (fst' A s 8)) a (nI i) = some 1 := by
    intro a m i hi h8 hm
    refine itr_for (fun _ _ _ _ => none) (fun k => s_X4_fitsTheRow_14 fu k SV SN) (fun i k => k (nI s) (nI (fst' A s 8)) a (nI i)) (fun _ => some 1) 8 (fun i => ∀ j, i ≤ j → al A j = false) (fun k _ => ?_) (fun k i hi hP hk => ?_) m i h8 hm hi
    · show s_X4_fitsTheRow_14 fu k SV SN _ _ _ _ = _
      unfold s_X4_fitsTheRow_14
      rw [if_pos (show (8 : Int32) ≤ nI 8 by decide)]
    · show s_X4_fitsTheRow_14 fu k SV SN _ _ _ _ = _
      unfold s_X4_fitsTheRow_14
      rw [if_neg (i8 hi), c_alive hA hC fu hi, hP i (Nat.le_refl i)]
      simp only [bd, nI_1]
      by_cases q : SV 7 0 ≤ a
      · rw [if_pos q]
      · rw [if_neg q]
        simpa using hk (fun j hj => hP j (by omega))
  have tail2 : ∀ a m i, (∀ j, i ≤ j → al A j = false) → i ≤ A 6 0 → A 6 0 < m + i → f_X5_doesFit_4 fu SM m (nI s) a (nI i) = some 1 := by
    intro a m i hi h8 hm
    refine itr_for (fun _ _ _ => none) (fun k => s_X5_doesFit_4 fu k SM) (fun i k => k (nI s) a (nI i)) (fun _ => some 1) (A 6 0) (fun i => ∀ j, i ≤ j → al A j = false) (fun k _ => ?_) (fun k i hi hP hk => ?_) m i h8 hm hi
    · show s_X5_doesFit_4 fu k SM _ _ _ = _
      unfold s_X5_doesFit_4
      rw [hM.1, if_pos (nI_le (Nat.le_refl _) (by omega))]
    · show s_X5_doesFit_4 fu k SM _ _ _ = _
      unfold s_X5_doesFit_4
      rw [hM.1, if_neg (nI_ge hi (by omega)), gd_in (by omega) (by omega), nI_clamp (by omega), (hM.2.2 i hi).1, if_neg (fI_n (by rw [hP i (Nat.le_refl i)]; decide)), nI_1]
      exact hk (fun j hj => hP j (by omega))
  have loop : ∀ d i m1 m2, i + d = A 6 0 → 8 < m1 + i → 8 < m2 + i → ∃ v, (v = 0 ∨ v = 1) ∧ f_X4_fitsTheRow_14 fu SV SN m1 (nI s) (nI (fst' A s 8)) (nI (fb_ct (al A) i)) (nI i) = some v ∧ f_X5_doesFit_4 fu SM m2 (nI s) (nI (fb_ct (al A) i)) (nI i) = some v := by
    intro d
    induction d with
    | zero =>
      intro i m1 m2 hi h1 h2
      exact ⟨1, Or.inr rfl, tail1 _ m1 i (fun j hj => al_f (by omega)) (by omega) h1, tail2 _ m2 i (fun j hj => al_f (by omega)) (by omega) (by omega)⟩
    | succ d ih =>
      intro i m1 m2 hi h1 h2
      have hi8 : i < 8 := by omega
      by_cases hle : r ≤ fb_ct (al A) i
      · exact ⟨1, Or.inr rfl, tail1 _ m1 i (none_left i hle) (by omega) h1, tail2 _ m2 i (none_left i hle) (by omega) (by omega)⟩
      · obtain ⟨m1, rfl⟩ : ∃ k, m1 = k + 1 := ⟨m1 - 1, by omega⟩
        obtain ⟨m2, rfl⟩ : ∃ k, m2 = k + 1 := ⟨m2 - 1, by omega⟩
        have ih := ih (i + 1) m1 m2 (by omega) (by omega) (by omega)
        rw [fb_ct_succ] at ih
        have hbc := fb_ct_le (al A) i
        generalize fb_ct (al A) i = a at ih hle hbc ⊢
        show ∃ v, (v = 0 ∨ v = 1) ∧ s_X4_fitsTheRow_14 fu (f_X4_fitsTheRow_14 fu SV SN m1) SV SN _ _ _ _ = some v ∧ s_X5_doesFit_4 fu (f_X5_doesFit_4 fu SM m2) SM _ _ _ = some v
        unfold s_X4_fitsTheRow_14 s_X5_doesFit_4
        rw [hM.1, if_neg (i8 hi8), if_neg (nI_ge (by omega) (by omega)), r1, if_neg (nI_ge (show a < r by omega) (by omega)), c_alive hA hC fu hi8, gd_in hi8 (by omega), nI_clamp (by omega), (hM.2.2 i (by omega)).1, holds_is fu hs.1 hi8, bit_get s hs.1 i hi8]
        simp only [bd]
        rw [nI_1]
        by_cases ha : al A i = true
        · obtain ⟨v, hv, w1, w2⟩ := hl a (by omega)
          have hf := (hA.2.1 i ha).2.2.1
          rw [if_pos ha] at ih
          have hup := ups_le hA hs ha
          rw [if_pos ha, if_neg n10, if_pos (fI_p hA ha)]
          unfold f_X4_fitsTheRow_78 f_X5_doesFit_38
          simp only [gd_in (show a < 8 by omega) (show 8 < 2 ^ 31 by omega), gd_in hi8 (show 8 < 2 ^ 31 by omega), nI_clamp (show a < 2 ^ 31 by omega), nI_clamp (show i < 2 ^ 31 by omega), w1, w2, nI_1]
          by_cases q10 : nI v = (10 : Int32)
          · simp only [if_pos q10]
            by_cases hb : s.testBit i = true
            · rw [if_pos hb, if_neg n10, if_pos rfl]; exact ih
            · rw [if_neg hb, if_pos rfl, if_neg (by decide), c_up hA hC fu hs ha]; exact ih
          · simp only [if_neg q10]
            by_cases hb : s.testBit i = true
            · rw [if_pos hb, if_neg n10, if_pos rfl, if_neg (nI_m1 (by omega)), if_neg n10]
              exact ⟨0, Or.inl rfl, rfl, rfl⟩
            · have hb2 : s.testBit i = false := by simpa using hb
              rw [if_neg hb, if_pos rfl, if_neg (show ¬ (0 : Int32) = 1 by decide), if_pos trivial, c_up hA hC fu hs ha, m_moves hA hM fu (by omega) hs (by omega), (hC.2.2 i (by omega)).1, (hM.2.2 i (by omega)).1, show mvs A s i = ups A s i by unfold mvs; rw [if_pos ⟨ha, hb2⟩]]
              simp only [bd]
              by_cases q : nI v = fI A i + nI (ups A s i)
              · rw [if_pos q, if_pos q]; exact ih
              · rw [if_neg q, if_neg q]; exact ⟨0, Or.inl rfl, rfl, rfl⟩
        · rw [if_neg ha] at ih
          rw [if_neg ha, if_pos rfl, if_neg (fI_n ha)]
          simp only [gd_in hi8 (show 8 < 2 ^ 31 by omega)]
          exact ih
  obtain ⟨v, h1, h2, h3⟩ := loop (A 6 0) 0 fu fu (by omega) (by omega) (by omega)
  refine ⟨v, h1, ?_, h3⟩
  unfold f_X4_fitsTheRow
  rw [c_floors hA hC fu (by omega) hs]
  exact h2
theorem bsn_ct {p : Nat → Bool} : fb_ct (fun j => (bsn p 8).testBit j) 10 = fb_ct p 8 := by
  rw [ct_tail (n := 8) (fun j hj => tb_high (bsn_lt p 8) hj) 10 (by omega)]
  apply fb_ct_cong
  intro k hk
  rw [bsn_test]; simp [hk]
theorem T_fitting {SV SN SK SL SM : S32} (h : RR SV SN SK SL SM) (fu : Nat) (hfu : 1000 ≤ fu) (x : Int32) : ∃ o1 o2, f_X4_fitting fu SV SN x = some o1 ∧ f_X5_fitting fu SM x = some o2 ∧ o1.1 = o2.1 ∧ RR o1.2 SN SK SL o2.2 := by
  obtain ⟨A, hA, h99, hC, hM, hD⟩ := h.1
  obtain ⟨r, hr, r1, r2, hl⟩ := h.2.1
  have hn := hA.1
  obtain ⟨V2, M2, c2, m2, w2⟩ := ref_k h fu (x := -2) (k := 2) rfl (by omega) (by omega)
  obtain ⟨V3, M3, c3, m3, w3⟩ := ref_k h fu (x := -3) (k := 3) rfl (by omega) (by omega)
  have hb : bsn (al A) 8 < 256 := bsn_lt _ 8
  have hp2 : 2 ^ A 6 0 ≤ 256 := Nat.pow_le_pow_right (n := 2) (by omega) hn
  have key : ∃ o1 o2, f_X4_fitting_16 fu SN x SV = some o1 ∧ (bd (f_X5_aliveBits fu SM) (fun o_3 => bd (f_X5_bits fu o_3) (fun o_4 => (if (SM 23 0) = o_4 then f_X5_fitting_45 fu fu x (0 : Int32) (-9 : Int32) (0 : Int32) SM else (bd (f_X5_no fu SM (-3 : Int32)) (fun o_6 => some (o_6.1, (o_6.2)))))))) = some o2 ∧ o1.1 = o2.1 ∧ RR o1.2 SN SK SL o2.2 := by
    unfold f_X4_fitting_16
    rw [c_living hA hC fu (by omega), m_living hA hM fu (by omega), c3, m3]
    simp only [bd]
    rw [bitc fu (by omega), m_bits fu (by omega) hb, r1, r2, bsn_ct]
    simp only []
    have hc8 := fb_ct_le (al A) 8
    by_cases q : r = fb_ct (al A) 8
    · rw [if_pos (by rw [← q]), if_pos (by rw [← q])]
      have tail : ∀ y z m t, 2 ^ A 6 0 ≤ t → t ≤ 256 → 256 < m + t → f_X4_fitting_48 fu SN m x y z (nI t) SV = f_X4_fitting_96 fu SN x y z SV := by
        intro y z m t ht h8 hm
        refine itr_for (fun _ _ _ _ _ => none) (fun k => s_X4_fitting_48 fu k SN) (fun t k => k x y z (nI t) SV) (fun _ => f_X4_fitting_96 fu SN x y z SV) 256 (fun t => 2 ^ A 6 0 ≤ t) (fun k _ => ?_) (fun k t ht hP hk => ?_) m t h8 hm ht
        · show s_X4_fitting_48 fu k SN _ _ _ _ _ = _
          unfold s_X4_fitting_48
          rw [if_pos (show (256 : Int32) ≤ nI 256 by decide)]
        · show s_X4_fitting_48 fu k SN _ _ _ _ _ = _
          unfold s_X4_fitting_48
          rw [if_neg (show ¬ (256 : Int32) ≤ nI t from fun w => by have := (nI_leI (a := 256) (by omega) (by omega)).mp w; omega)]
          rcases c_areAlive hA hC fu (by omega) (nI t) with ⟨s, e, hs, -⟩ | ⟨-, e⟩
          · exfalso
            have := (nI_eq (by omega) (by have := hs.1; omega)).mp e
            subst this
            have : t < 2 ^ A 6 0 := Nat.lt_pow_two_of_testBit _ (fun i hi => by
              cases hq : t.testBit i with
              | false => rfl
              | true => have := al_lt (hs.2 i hq); omega)
            omega
          · rw [e]
            simp only [bd, ↓reduceIte]
            rw [nI_1]
            exact hk (by omega)
      have loop : ∀ d t m1 m2 y z, t + d = 2 ^ A 6 0 → 256 < m1 + t → 256 < m2 + t → ∃ v, f_X4_fitting_48 fu SN m1 x y z (nI t) SV = some (v, SV) ∧ f_X5_fitting_45 fu m2 x y z (nI t) SM = some (v, SM) := by
        intro d
        induction d with
        | zero =>
          intro t m1 m2 y z ht h1 h2
          obtain ⟨m2, rfl⟩ : ∃ k, m2 = k + 1 := ⟨m2 - 1, by omega⟩
          rw [tail y z m1 t (by omega) (by omega) h1]
          show ∃ v, _ ∧ s_X5_fitting_45 fu _ _ _ _ _ _ = _
          unfold s_X5_fitting_45 f_X4_fitting_96 f_X5_fitting_97
          rw [hM.1, bit_one _ (by omega), if_pos (nI_le (by omega) (by omega))]
          by_cases q : x = 0
          · rw [if_pos q, if_pos q]; exact ⟨_, rfl, rfl⟩
          · rw [if_neg q, if_neg q]; exact ⟨_, rfl, rfl⟩
        | succ d ih =>
          intro t m1 m2 y z ht h1 h2
          obtain ⟨m1, rfl⟩ : ∃ k, m1 = k + 1 := ⟨m1 - 1, by omega⟩
          obtain ⟨m2, rfl⟩ : ∃ k, m2 = k + 1 := ⟨m2 - 1, by omega⟩
          show ∃ v, s_X4_fitting_48 fu (f_X4_fitting_48 fu SN m1) SN _ _ _ _ _ = some (v, SV) ∧ s_X5_fitting_45 fu (f_X5_fitting_45 fu m2) _ _ _ _ _ = some (v, SM)
          unfold s_X4_fitting_48 s_X5_fitting_45
          rw [hM.1, bit_one _ (by omega), if_neg (nI_ge (show t < 2 ^ A 6 0 by omega) (by omega)), if_neg (show ¬ (256 : Int32) ≤ nI t from fun w => by have := (nI_leI (a := 256) (by omega) (by omega)).mp w; omega), nI_1]
          have ih := fun y z => ih (t + 1) m1 m2 y z (by omega) (by omega) (by omega)
          rcases are_any hA hC hM fu (by omega) (nI t) with ⟨s, e, hs, e1, e2⟩ | ⟨e1, e2⟩
          · have := (nI_eq (by omega) (by have := hs.1; omega)).mp e
            subst this
            obtain ⟨v, hv, f1, f2⟩ := c_fits hA hC hM fu hfu hr r1 hl q hs
            rw [e1, e2]
            simp only [bd]
            rw [if_neg n10, if_neg n10, f1, f2]
            simp only []
            rcases hv with rfl | rfl
            · rw [if_pos rfl, if_pos rfl]; exact ih y z
            · rw [if_neg n10, if_neg n10]
              by_cases qy : y = 0
              · rw [if_pos qy, if_pos qy]; exact ih _ _
              · rw [if_neg qy, if_neg qy]; exact ih _ _
          · rw [e1, e2]
            simp only [bd, ↓reduceIte]
            exact ih y z
      obtain ⟨v, f1, f2⟩ := loop (2 ^ A 6 0) 0 fu fu 0 (-9) (by omega) (by omega) (by omega)
      exact ⟨(v, SV), (v, SM), f1, f2, rfl, h⟩
    · rw [if_neg (fun w => q ((nI_eq (by omega) (by omega)).mp w)), if_neg (fun w => q ((nI_eq (by omega) (by omega)).mp w))]
      exact ⟨_, _, rfl, rfl, rfl, w3⟩
  unfold f_X4_fitting f_X5_fitting
  rcases in01 fu x with ⟨rfl, e⟩ | ⟨rfl, e⟩ | ⟨q0, q1, e⟩
  · rw [e, if_pos rfl]
    exact key
  · rw [e, if_neg n10, if_pos rfl]
    exact key
  · rw [e, if_neg q0, if_neg q1, c2, m2]
    exact ⟨_, _, rfl, rfl, rfl, w2⟩
