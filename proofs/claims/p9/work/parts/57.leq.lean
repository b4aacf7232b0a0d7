/-! the two fractions are of one worth -/
theorem fin_1 {A : AB} (hA : OKA A) {i f s : Nat} (hi : al A i = true) (hs : inA A s) (hc : ¬ (A 2 i < f ∧ A 0 i = 3 ∧ A 2 i = 0)) : fin A i f s = true ↔ (s.testBit i = false ∧ f - A 2 i ≤ c1n A i s (A 6 0)) := by
  have ea : abv A s i = c1n A i s (A 6 0) := by
    unfold abv c1n
    rw [fb_ct_cong (p := fun j => s.testBit j && decide (A 2 i < A 2 j)) (q := fun j => s.testBit j && abo A i j) (fun j _ => by
      show (s.testBit j && decide (A 2 i < A 2 j)) = (s.testBit j && (al A j && decide (A 2 i < A 2 j)))
      cases hb : s.testBit j with
      | false => rfl
      | true => rw [hs.2 j hb]; rfl)]
    exact ct_tail (fun j hj => by
      cases hb : s.testBit j with
      | false => rfl
      | true =>
        have := al_lt (hs.2 j hb)
        omega) 8 hA.1
  unfold fin ups
  rw [hi]
  simp only [Bool.true_and, Bool.and_eq_true, decide_eq_true_eq, Bool.not_eq_true']
  by_cases q : A 0 i = 3 ∧ A 2 i = 0
  · rw [if_pos q]
    have : ¬ A 2 i < f := fun w => hc ⟨w, q⟩
    constructor
    · rintro ⟨w1, w2⟩; exact ⟨w1, by omega⟩
    · rintro ⟨w1, w2⟩; exact ⟨w1, by omega⟩
  · rw [if_neg q, ea]
    constructor
    · rintro ⟨w1, w2⟩; exact ⟨w1, by omega⟩
    · rintro ⟨w1, w2⟩; exact ⟨w1, by omega⟩
theorem fin_0 {A : AB} {i f s : Nat} (hc : A 2 i < f ∧ A 0 i = 3 ∧ A 2 i = 0) : fin A i f s = false := by
  unfold fin ups
  rw [if_pos hc.2]
  rw [decide_eq_false (show ¬ f ≤ A 2 i + 0 by omega), Bool.and_false]
theorem c1n_le (A : AB) (i s : Nat) {m : Nat} (h : m ≤ 8) : c1n A i s m ≤ 8 := Nat.le_trans (fb_ct_le _ m) h
theorem c2n_le (A : AB) (i s t : Nat) {m : Nat} (h : m ≤ 8) : c2n A i s t m ≤ 8 := Nat.le_trans (fb_ct_le _ m) h
theorem V_1 {A : AB} (hA : OKA A) {i f : Nat} (hi : al A i = true) (hc : ¬ (A 2 i < f ∧ A 0 i = 3 ∧ A 2 i = 0)) : fb_sm (qto A i f) (2 ^ A 6 0) = fb_sm (fun d => if f - A 2 i ≤ d then Z1 A i (A 6 0) d else 0) 9 := by
  unfold Z1
  rw [sm_swap (fun d s => g1n A i (A 6 0) d s)]
  refine fb_sm_cong (fun s hs => ?_)
  unfold g1n
  rw [sm_pick _ _ _ _ (c1n_le A i s hA.1)]
  unfold qto
  by_cases q : inA A s
  · have h := fin_1 hA hi q hc
    by_cases q2 : fin A i f s = true
    · rw [if_pos q2, if_pos (h.mp q2)]
    · rw [if_neg q2, if_neg (fun w => q2 (h.mpr w))]
  · rw [prt_no hA hs hA.1 q]
    split <;> split <;> rfl
theorem yr_2 (A : AB) (s j : Nat) : yr A s 2 j = A 2 j + ups A s j := rfl
theorem yr_0 (A : AB) (s j : Nat) : yr A s 0 j = A 0 j := rfl
theorem yr_6 (A : AB) (s : Nat) : yr A s 6 0 = A 6 0 := rfl
theorem fin_2 {A : AB} (hA : OKA A) {i f s t : Nat} (hi : al A i = true) (hs : inA A s) (ht : inA (yr A s) t) (hc : ¬ (A 2 i < f ∧ A 0 i = 3 ∧ A 2 i = 0)) : fin (yr A s) i f t = true ↔ ((s.testBit i = false ∧ t.testBit i = false) ∧ f - A 2 i ≤ c2n A i s t (A 6 0)) := by
  have hY := OKA_yr hA hs
  have htl : ∀ j, t.testBit j = true → al A j = true ∧ s.testBit j = false := fun j hj => by
    have := ht.2 j hj
    rw [al_yr, Bool.and_eq_true, Bool.not_eq_true'] at this
    exact this
  unfold fin
  rw [al_yr, hi]
  simp only [Bool.true_and, Bool.and_eq_true, decide_eq_true_eq, Bool.not_eq_true']
  by_cases hsi : s.testBit i = false
  · by_cases hti : t.testBit i = false
    · have goal : f ≤ yr A s 2 i + ups (yr A s) t i ↔ f - A 2 i ≤ c2n A i s t (A 6 0) := by
        rw [yr_2]
        by_cases q : A 0 i = 3 ∧ A 2 i = 0
        · have u1 : ups A s i = 0 := by unfold ups; rw [if_pos q]
          have u2 : ups (yr A s) t i = 0 := by
            unfold ups
            rw [if_pos]
            rw [yr_0, yr_2, u1, Nat.add_zero]; exact q
          rw [u1, u2]
          have : ¬ A 2 i < f := fun w => hc ⟨w, q⟩
          constructor <;> intro _ <;> omega
        · have u1 : ups A s i = abv A s i := by unfold ups; rw [if_neg q]
          have u2 : ups (yr A s) t i = abv (yr A s) t i := by
            unfold ups
            rw [if_neg]
            rw [yr_0, yr_2]
            rintro ⟨w1, w2⟩
            exact q ⟨w1, by omega⟩
          have hord : ∀ j, t.testBit j = true → (yr A s 2 i < yr A s 2 j ↔ A 2 i < A 2 j) := by
            intro j hj
            obtain ⟨hj1, hj2⟩ := htl j hj
            rw [yr_2, yr_2]
            rcases Nat.lt_trichotomy (A 2 i) (A 2 j) with w | w | w
            · exact ⟨fun _ => w, fun _ => ups_sep hA hs hi hj1 hj2 w⟩
            · have := hA.2.2 i j hi hj1 w
              rw [this, hj] at hti; cases hti
            · have h2 := ups_sep hA hs hj1 hi hsi w
              exact ⟨fun w2 => absurd w2 (by omega), fun w2 => absurd w2 (by omega)⟩
          have ec : abv A s i + abv (yr A s) t i = c2n A i s t (A 6 0) := by
            unfold abv c2n
            rw [fb_ct_cong (p := fun j => s.testBit j && decide (A 2 i < A 2 j)) (q := fun j => s.testBit j && abo A i j) (fun j _ => by
              show (s.testBit j && decide (A 2 i < A 2 j)) = (s.testBit j && (al A j && decide (A 2 i < A 2 j)))
              cases hb : s.testBit j with
              | false => rfl
              | true => rw [hs.2 j hb]; rfl)]
            rw [fb_ct_cong (p := fun j => t.testBit j && decide (yr A s 2 i < yr A s 2 j)) (q := fun j => t.testBit j && abo A i j) (fun j _ => by
              show (t.testBit j && decide (yr A s 2 i < yr A s 2 j)) = (t.testBit j && (al A j && decide (A 2 i < A 2 j)))
              cases hb : t.testBit j with
              | false => rfl
              | true =>
                have h1 := hord j hb
                rw [(htl j hb).1]
                show decide (yr A s 2 i < yr A s 2 j) = decide (A 2 i < A 2 j)
                by_cases w : A 2 i < A 2 j
                · rw [decide_eq_true w, decide_eq_true (h1.mpr w)]
                · rw [decide_eq_false w, decide_eq_false (fun v => w (h1.mp v))])]
            rw [← fb_ct_or (fun j _ w => by
              rw [Bool.and_eq_true, Bool.and_eq_true] at w
              have := (htl j w.2.1).2
              rw [w.1.1] at this; cases this)]
            rw [fb_ct_cong (p := fun j => s.testBit j && abo A i j || t.testBit j && abo A i j) (q := fun j => (s.testBit j || t.testBit j) && abo A i j) (fun j _ => by
              show (s.testBit j && abo A i j || t.testBit j && abo A i j) = ((s.testBit j || t.testBit j) && abo A i j)
              cases s.testBit j <;> cases t.testBit j <;> cases abo A i j <;> rfl)]
            exact ct_tail (fun j hj => by
              cases ha : abo A i j with
              | false => rw [Bool.and_false]
              | true =>
                have := al_lt (abo_iff.mp ha).1
                omega) 8 hA.1
          rw [u1, u2]
          constructor
          · intro w; omega
          · intro w; omega
      constructor
      · rintro ⟨⟨-, -⟩, w⟩; exact ⟨⟨hsi, hti⟩, goal.mp w⟩
      · rintro ⟨-, w⟩; exact ⟨⟨hsi, hti⟩, goal.mpr w⟩
    · exact ⟨fun w => absurd w.1.2 hti, fun w => absurd w.1.2 hti⟩
  · exact ⟨fun w => absurd w.1.1 hsi, fun w => absurd w.1.1 hsi⟩
theorem V_2 {A : AB} (hA : OKA A) {i f : Nat} (hi : al A i = true) (hc : ¬ (A 2 i < f ∧ A 0 i = 3 ∧ A 2 i = 0)) : fb_sm (q2 A i f) (2 ^ A 6 0) = fb_sm (fun d => if f - A 2 i ≤ d then Z2 A i (A 6 0) d else 0) 9 := by
  unfold Z2
  rw [sm_swap (fun d s => fb_sm (fun t => g2n A i (A 6 0) d s t) (2 ^ A 6 0))]
  refine fb_sm_cong (fun s hs => ?_)
  rw [sm_swap (fun d t => g2n A i (A 6 0) d s t)]
  unfold q2
  rw [Nat.mul_comm, ← sm_mul]
  refine fb_sm_cong (fun t ht => ?_)
  unfold g2n
  rw [sm_pick _ _ _ _ (c2n_le A i s t hA.1)]
  unfold qto w2
  rw [yr_6]
  by_cases q : inA A s
  · by_cases q1 : inA (yr A s) t
    · have h := fin_2 hA hi q q1 hc
      by_cases q2 : fin (yr A s) i f t = true
      · rw [if_pos q2, if_pos (h.mp q2), Nat.mul_comm]
      · rw [if_neg q2, if_neg (fun w => q2 (h.mpr w)), Nat.zero_mul]
    · rw [prt_no (OKA_yr hA q) ht hA.1 q1, Nat.mul_zero]
      split <;> split <;> simp
  · rw [prt_no hA hs hA.1 q, Nat.mul_zero, Nat.zero_mul]
    split <;> rfl
theorem V_0 {A : AB} {i f n : Nat} (hA : OKA A) (hc : A 2 i < f ∧ A 0 i = 3 ∧ A 2 i = 0) : VV A i f n = 0 := by
  unfold VV
  by_cases q : n = 1
  · rw [if_pos q, show fb_sm (qto A i f) (2 ^ A 6 0) = fb_sm (fun _ => 0) (2 ^ A 6 0) from fb_sm_cong (fun s _ => by unfold qto; rw [fin_0 hc, if_neg (by decide)]), sm_zero]
  · rw [if_neg q, show fb_sm (q2 A i f) (2 ^ A 6 0) = fb_sm (fun _ => 0) (2 ^ A 6 0) from fb_sm_cong (fun s hs => by
      have hy : yr A s 2 i < f ∧ yr A s 0 i = 3 ∧ yr A s 2 i = 0 := by
        have u : ups A s i = 0 := by unfold ups; rw [if_pos hc.2]
        rw [yr_2, yr_0, u]; exact hc
      unfold q2
      rw [show fb_sm (qto (yr A s) i f) (2 ^ A 6 0) = fb_sm (fun _ => 0) (2 ^ A 6 0) from fb_sm_cong (fun t _ => by unfold qto; rw [fin_0 hy, if_neg (by decide)]), sm_zero, Nat.mul_zero]), sm_zero]
theorem cross {A : AB} (hA : OKA A) {i f n : Nat} (hi : al A i = true) (hn : n = 1 ∨ n = 2) : upA A i f n * DD A n = VV A i f n * upB A i n := by
  by_cases hc : A 2 i < f ∧ A 0 i = 3 ∧ A 2 i = 0
  · rw [V_0 hA hc]
    unfold upA
    rw [if_pos hc, Nat.zero_mul, Nat.zero_mul, Nat.zero_mul]
  · unfold upA upB DD VV
    rw [if_neg hc, Nat.pow_mul]
    rcases hn with rfl | rfl
    · rw [if_pos rfl, V_1 hA hi hc]
      exact (Z_end hA hi (ZF_1 hA hi)).symm
    · rw [if_neg (by decide), V_2 hA hi hc]
      exact (Z_end hA hi (ZF_2 hA hi)).symm
theorem upB_b {A : AB} {i n : Nat} (hA : OKA A) (hi : al A i = true) (hn : n = 1 ∨ n = 2) : 0 < upB A i n ∧ upB A i n ≤ 10 ^ 18 := by
  have he : 0 < 10 ^ n ∧ 10 ^ n ≤ 100 := by rcases hn with rfl | rfl <;> exact ⟨by decide, by decide⟩
  have h : ∀ m, 0 < pb A i n m ∧ pb A i n m ≤ (10 ^ n) ^ m := by
    intro m
    induction m with
    | zero => exact ⟨by show 0 < 1; decide, Nat.le_refl 1⟩
    | succ m ih =>
      show 0 < (if al A m = true ∧ A 2 i < A 2 m then pb A i n m * 10 ^ n else pb A i n m) ∧ (if al A m = true ∧ A 2 i < A 2 m then pb A i n m * 10 ^ n else pb A i n m) ≤ _
      rw [Nat.pow_succ]
      by_cases q : al A m = true ∧ A 2 i < A 2 m
      · rw [if_pos q]
        exact ⟨Nat.mul_pos ih.1 he.1, Nat.mul_le_mul_right _ ih.2⟩
      · rw [if_neg q]
        exact ⟨ih.1, Nat.le_trans ih.2 (Nat.le_mul_of_pos_right _ he.1)⟩
  obtain ⟨h1, h2⟩ := h 8
  refine ⟨Nat.mul_pos h1 he.1, ?_⟩
  unfold upB
  refine Nat.le_trans (Nat.mul_le_mul h2 (Nat.le_refl _)) ?_
  rcases hn with rfl | rfl <;> decide
theorem LEQ_is (fu : Nat) (hfu : 1000 ≤ fu) : LEQ fu := by
  intro A i f n hA hi hf hn S S2 h1 h2 h3
  obtain ⟨b1, b2⟩ := upB_b hA hi hn
  obtain ⟨d1, d2⟩ := DD_b hA hn
  have hv := VV_b hA i f hn
  have hx := cross hA (f := f) hi hn
  have ha : upA A i f n ≤ upB A i n := by
    have : upA A i f n * DD A n ≤ upB A i n * DD A n := by
      rw [hx, Nat.mul_comm]
      exact Nat.mul_le_mul_left _ hv
    exact Nat.le_of_mul_le_mul_right this d1
  have p60 : (10 : Nat) ^ 18 < 2 ^ 60 := by decide
  obtain ⟨r1, r2⟩ := c_short hfu (by omega) (by omega) b1 h1 h2 h3
  obtain ⟨e1, e2⟩ := least_eq b1 d1 hx
  rw [r1, r2, e1, e2]
  exact ⟨rfl, rfl⟩
theorem T_likely {SV SN SK SL SM : S32} {SO : S64} (h : RR SV SN SK SL SM) (fu : Nat) (hfu : 2 ^ 64 ≤ fu) (x y u z : Int32) : ∃ o1 o2, f_X4_likely fu SV SN SO x y u z = some o1 ∧ f_X5_likely fu SM x y u z = some o2 ∧ o1.1 = o2.1 ∧ RR o1.2.1 SN SK SL o2.2 := by
  obtain ⟨o1, o2, h1, h2, h3, h4⟩ := T_likely0 (SO := SO) h fu hfu x y u z
  exact ⟨o1, o2, h1, h2, h3 (LEQ_is fu (by omega)), h4⟩
