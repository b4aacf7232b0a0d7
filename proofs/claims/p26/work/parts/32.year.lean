/-! a year of told deaths -/
theorem ct_tail {p : Nat → Bool} {n : Nat} (h : ∀ j, n ≤ j → p j = false) : ∀ m, n ≤ m → fb_ct p m = fb_ct p n
  | 0, hm => by rw [show n = 0 by omega]
  | m + 1, hm => by
    by_cases q : n = m + 1
    · rw [q]
    · rw [fb_ct_succ, h m (by omega), ct_tail h m (by omega)]; rfl
theorem MT_fr {M M2 : S32} {A : AB} (hM : MT M A) (h : ∀ a, 1 ≤ a → a ≤ 7 → M2 a = M a) : MT M2 A := by
  unfold MT at hM ⊢
  rw [h 1 (by omega) (by omega), h 2 (by omega) (by omega), h 3 (by omega) (by omega), h 4 (by omega) (by omega), h 5 (by omega) (by omega), h 6 (by omega) (by omega), h 7 (by omega) (by omega)]
  exact hM
theorem nI_a0 (n : Nat) : nI n + (0 : Int32) = nI n := by rw [show (0 : Int32) = nI 0 from rfl, nI_add, Nat.add_zero]
theorem m_moves0 {M : S32} {A : AB} (hA : OKA A) (hM : MT M A) (fu : Nat) (hfu : 9 ≤ fu) {s i : Nat} (hs : inA A s) (h : al A i = true) : f_X5_movesOf_44 fu M fu (nI i) (nI s) 0 0 = some (nI (abv A s i)) := by
  have hn := hA.1
  have hi := al_lt8 hA h
  have hf := (hA.2.1 i h).2.2.1
  have et : fb_ct (fun j => s.testBit j && decide (A 2 i < A 2 j)) 8 = fb_ct (fun j => s.testBit j && decide (A 2 i < A 2 j)) (A 6 0) := by
    apply ct_tail _ 8 hn
    intro j hj
    by_cases hb : s.testBit j = true
    · have := al_lt (hs.2 j hb); omega
    · simp [hb]
  refine itr_for (fun _ _ _ _ => none) (fun k => s_X5_movesOf_44 fu k M) (fun d k => k (nI i) (nI s) (nI (fb_ct (fun j => s.testBit j && decide (A 2 i < A 2 j)) d)) (nI d)) (fun _ => some (nI (abv A s i))) (A 6 0) (fun _ => True) (fun k _ => ?_) (fun k d hd _ hk => ?_) fu 0 (by omega) (by omega) trivial
  · show s_X5_movesOf_44 fu k M _ _ _ _ = _
    unfold s_X5_movesOf_44
    rw [hM.1, if_pos (nI_le (Nat.le_refl _) (by omega))]
    unfold abv
    rw [et]
  · show s_X5_movesOf_44 fu k M _ _ _ _ = _
    have hk := hk trivial
    rw [fb_ct_succ] at hk
    unfold s_X5_movesOf_44
    rw [hM.1, if_neg (nI_ge hd (by omega)), bit_get s hs.1 d (by omega), gd_in (by omega) (by omega), gd_in hi (by omega), nI_clamp (by omega), nI_clamp (by omega), nI_1]
    by_cases hb : s.testBit d = true
    · have ha := hs.2 d hb
      have hf2 := (hA.2.1 d ha).2.2.1
      rw [if_pos hb, if_pos rfl, (hM.2.2 d hd).1, (hM.2.2 i (al_lt h)).1, fI, if_pos ha, fI, if_pos h]
      rw [hb, Bool.true_and] at hk
      by_cases q : A 2 i < A 2 d
      · rw [if_neg (nI_ge q (by omega)), nI_1]
        rw [if_pos (by simpa using q)] at hk
        exact hk
      · rw [if_pos (nI_le (by omega) (by omega)), nI_a0]
        rw [if_neg (by simpa using q), Nat.add_zero] at hk
        exact hk
    · rw [if_neg hb, if_neg (by decide), nI_a0]
      simp only [hb, Bool.false_and, Bool.false_eq_true, if_false, Nat.add_zero] at hk
      exact hk
/-- how many floors i moves when s dies: nobody who is dead or dies moves -/
def mvs (A : AB) (s i : Nat) : Nat := if al A i = true ∧ s.testBit i = false then ups A s i else 0
theorem m_moves {M : S32} {A : AB} (hA : OKA A) (hM : MT M A) (fu : Nat) (hfu : 9 ≤ fu) {s i : Nat} (hs : inA A s) (hi : i < A 6 0) : f_X5_movesOf fu M (nI i) (nI s) = some (nI (mvs A s i)) := by
  have hn := hA.1
  unfold f_X5_movesOf mvs
  rw [gd_in (show i < 8 by omega) (by omega), gd_in (show i < 8 by omega) (by omega), gd_in (show i < 8 by omega) (by omega), nI_clamp (by omega), (hM.2.2 i hi).1, bit_get s hs.1 i (by omega)]
  unfold fI
  by_cases h : al A i = true
  · have hf := (hA.2.1 i h).2.2.1
    have hk := (hA.2.1 i h).1
    obtain ⟨e1, -, -, -⟩ := (hM.2.2 i hi).2 h
    rw [if_pos h, if_neg (nI_nn (by omega)), e1]
    by_cases hb : s.testBit i = true
    · rw [if_pos hb, if_pos rfl, if_neg (fun q => by rw [hb] at q; cases q.2)]; rfl
    · have hb2 : s.testBit i = false := by simpa using hb
      rw [if_neg hb, if_neg (by decide), if_pos (show al A i = true ∧ s.testBit i = false from ⟨h, hb2⟩)]
      unfold ups
      rw [m_moves0 hA hM fu hfu hs h]
      by_cases q : A 0 i = 3
      · rw [if_pos (show nI (A 0 i) = (3 : Int32) by rw [q]; rfl)]
        by_cases q2 : A 2 i = 0
        · rw [if_pos (show nI (A 2 i) = (0 : Int32) by rw [q2]; rfl), if_pos ⟨q, q2⟩]; rfl
        · rw [if_neg (show ¬ nI (A 2 i) = (0 : Int32) from fun w => q2 ((nI_z (by omega)).mp w)), if_neg (fun w => q2 w.2)]
      · rw [if_neg (show ¬ nI (A 0 i) = (3 : Int32) from fun w => q ((nI_eq (b := 3) (by omega) (by omega)).mp w)), if_neg (fun w => q w.1)]
  · rw [if_neg h, if_pos (by decide), if_neg (fun q => h q.1)]; rfl
/-- the state behind a year in which s dies -/
def yr (A : AB) (s : Nat) : AB := fun a i => if a = 5 then (if s.testBit i then 0 else A 5 i) else if a = 2 then A 2 i + ups A s i else if a = 1 then min 99 (A 1 i + 1) else if a = 7 then A 7 0 + 1 else A a i
/-- how many move up -/
def mvd (A : AB) (s n : Nat) : Nat := fb_ct (fun i => al A i && !s.testBit i && decide (0 < ups A s i)) n
theorem al_yr (A : AB) (s i : Nat) : al (yr A s) i = (al A i && !s.testBit i) := by
  unfold al yr
  by_cases hb : s.testBit i = true
  · simp [hb]
  · simp [hb]
theorem c_year {T : S32} {A : AB} (hA : OKA A) (hC : CT T A) (fu : Nat) (hfu : 9 ≤ fu) {s : Nat} (hs : inA A s) : ∃ T2 : S32, f_X3_passYear fu T (nI s) = some (nI (mvd A s 8), T2) ∧ CT T2 (yr A s) := by
  have hn := hA.1
  have loop : ∀ (m j : Nat) (U : S32), j ≤ 8 → 8 < m + j → (∀ a, a ≠ 1 → a ≠ 2 → a ≠ 6 → U a = T a) → U 6 = T 6 → (∀ i, i < j → i < A 6 0 → U 2 i = fI (yr A s) i ∧ (al A i = true → U 1 i = nI (min 99 (A 1 i + 1)))) → (∀ i, j ≤ i → U 2 i = T 2 i ∧ U 1 i = T 1 i) →
      ∃ T2 : S32, f_X3_passYear_17 fu m (nI s) (nI (fst' A s 8)) (nI (bsn (al A) 8)) (nI (mvd A s j)) (nI j) U = some (nI (mvd A s 8), T2) ∧ CT T2 (yr A s) := by
    intro m
    induction m with
    | zero => intro j U h1 h2; exact absurd h2 (by omega)
    | succ m ih =>
      intro j U h1 h2 hU h6 hlo hhi
      show ∃ T2 : S32, s_X3_passYear_17 fu (f_X3_passYear_17 fu m) _ _ _ _ _ U = some (nI (mvd A s 8), T2) ∧ CT T2 (yr A s)
      unfold s_X3_passYear_17
      rcases Nat.lt_or_ge j 8 with hj | hj
      · rw [if_neg (i8 hj), holds_is fu (bsn_lt _ 8) hj, bsn_test]
        simp only [bd]
        rw [show decide (j < 8) = true by simpa using hj, Bool.true_and]
        by_cases h : al A j = true
        · have hjn := al_lt h
          have hf := (hA.2.1 j h).2.2.1
          have hag := (hA.2.1 j h).2.1
          have hu8 : ups A s j ≤ 8 := by unfold ups; have := abv_le A s j; split <;> omega
          obtain ⟨e1, e2, e3, e4⟩ := (hC.2.2 j hjn).2 h
          have ef := (hC.2.2 j hjn).1
          rw [fI, if_pos h] at ef
          have U0 : U 0 = T 0 := hU 0 (by decide) (by decide) (by decide)
          obtain ⟨u2, u1⟩ := hhi j (Nat.le_refl _)
          -- the two reads of this state are of T's own
          have cup : f_X3_floorsUp fu U (nI j) (nI (fst' A s 8)) = some (nI (ups A s j)) := by
            have := c_up hA hC fu hs h
            unfold f_X3_floorsUp f_X3_staysDown at this ⊢
            rw [gd_in hj (by omega), gd_in hj (by omega), gd_in hj (by omega), nI_clamp (by omega)] at this ⊢
            rw [U0, u2]
            exact this
          have cage : ∀ V : S32, V 1 j = T 1 j → f_X3_ageAfter fu V (nI j) 1 = some (nI (min 99 (A 1 j + 1))) := by
            intro V hV
            have := c_age hA hC fu h (y := 1) (by omega)
            unfold f_X3_ageAfter at this ⊢
            rw [gd_in hj (by omega), nI_clamp (by omega)] at this ⊢
            rw [hV]
            exact this
          rw [if_pos h, if_neg (by decide), cup]
          simp only []
          rw [holds_is fu hs.1 hj]
          simp only []
          have step : ∀ (x7 : Int32) (v : Nat), (x7 = if s.testBit j then 1 else 0) → v = mvd A s (j + 1) → ∃ T2 : S32, f_X3_passYear_66 fu (f_X3_passYear_17 fu m) (nI s) (nI (fst' A s 8)) (nI (bsn (al A) 8)) (nI v) (nI j) (nI (ups A s j)) x7 U = some (nI (mvd A s 8), T2) ∧ CT T2 (yr A s) := by
            intro x7 v h7 hv
            subst hv
            have fin : ∀ y2 : Int32, y2 = fI (yr A s) j → ∃ T2 : S32, f_X3_passYear_91 fu (f_X3_passYear_17 fu m) (nI s) (nI (fst' A s 8)) (nI (bsn (al A) 8)) (nI (mvd A s (j + 1))) (nI j) (nI j) y2 U = some (nI (mvd A s 8), T2) ∧ CT T2 (yr A s) := by
              intro y2 hy
              unfold f_X3_passYear_91
              rw [gd_in hj (by omega), nI_clamp (by omega), cage _ (by rw [sa_eq, if_neg (by decide)]; exact u1)]
              simp only [bd]
              rw [gd_in hj (by omega), nI_1]
              refine ih (j + 1) _ (by omega) (by omega) ?_ ?_ ?_ ?_
              · intro a a1 a2 a6
                rw [sa_eq, if_neg a2, sa_eq, if_neg a1]
                exact hU a a1 a2 a6
              · rw [sa_eq, if_neg (by decide), sa_eq, if_neg (by decide)]; exact h6
              · intro i hi hin
                rw [sa_eq, if_pos rfl, sa_eq, if_neg (by decide), sa_eq, if_pos rfl]
                by_cases hij : i = j
                · subst hij
                  exact ⟨by rw [pk_us]; exact hy, fun _ => by rw [pk_us]⟩
                · obtain ⟨q1, q2⟩ := hlo i (by omega) hin
                  exact ⟨by rw [pk_un hij]; exact q1, fun w => by rw [pk_un hij]; exact q2 w⟩
              · intro i hi
                rw [sa_eq, if_pos rfl, sa_eq, if_neg (by decide), sa_eq, if_pos rfl]
                have hij : i ≠ j := by omega
                obtain ⟨q1, q2⟩ := hhi i (by omega)
                exact ⟨by rw [pk_un hij]; exact q1, by rw [pk_un hij]; exact q2⟩
            unfold f_X3_passYear_66
            by_cases hb : s.testBit j = true
            · rw [h7, if_pos hb, if_neg (by decide)]
              exact fin _ (by rw [fI, al_yr, hb]; simp)
            · have hb2 : s.testBit j = false := by simpa using hb
              rw [h7, if_neg hb, if_pos rfl, gd_in hj (by omega), nI_clamp (by omega), u2, ef, nI_add]
              exact fin _ (by rw [fI, al_yr, h, hb2]; simp [yr])
          have mv : mvd A s (j + 1) = mvd A s j + (if al A j && !s.testBit j && decide (0 < ups A s j) then 1 else 0) := fb_ct_succ _ _
          by_cases hb : s.testBit j = true
          · rw [if_pos hb, if_neg (by decide)]
            refine step 1 (mvd A s j) (by rw [if_pos hb]) (by rw [mv, hb]; simp)
          · have hb2 : s.testBit j = false := by simpa using hb
            rw [if_neg hb, if_pos rfl]
            by_cases hz : ups A s j = 0
            · rw [if_pos (by rw [hz]; decide)]
              exact step 0 (mvd A s j) (by rw [if_neg hb]) (by rw [mv, hz]; simp)
            · rw [if_neg (show ¬ nI (ups A s j) ≤ (0 : Int32) from nI_nle (by omega) (by omega)), nI_1]
              exact step 0 (mvd A s j + 1) (by rw [if_neg hb]) (by rw [mv, h, hb2]; simp; omega)
        · rw [if_neg h, if_pos rfl, nI_1]
          have mv : mvd A s (j + 1) = mvd A s j := by
            have : mvd A s (j + 1) = mvd A s j + (if al A j && !s.testBit j && decide (0 < ups A s j) then 1 else 0) := fb_ct_succ _ _
            rw [this]; simp [h]
          rw [← mv]
          refine ih (j + 1) U (by omega) (by omega) hU h6 ?_ (fun i hi => hhi i (by omega))
          intro i hi hin
          by_cases hij : i = j
          · subst hij
            refine ⟨?_, fun w => absurd w h⟩
            rw [(hhi i (Nat.le_refl _)).1, (hC.2.2 i hin).1, fI, if_neg h, fI, al_yr]
            simp [h]
          · exact hlo i (by omega) hin
      · obtain rfl : j = 8 := by omega
        rw [if_pos (show (8 : Int32) ≤ nI 8 by decide)]
        unfold f_X3_passYear_112
        refine ⟨_, rfl, ?_, ?_, ?_⟩
        · rw [sa_eq, if_neg (by decide), hU 5 (by decide) (by decide) (by decide)]; exact hC.1
        · rw [sa_eq, if_pos rfl, h6, hC.2.1, nI_1]; rfl
        · intro i hi
          have hi : i < A 6 0 := hi
          obtain ⟨q1, q2⟩ := hlo i (by omega) hi
          rw [sa_eq, if_neg (by decide), sa_eq, if_neg (by decide), sa_eq, if_neg (by decide), sa_eq, if_neg (by decide), sa_eq, if_neg (by decide)]
          refine ⟨q1, fun w => ?_⟩
          have ha : al A i = true := by rw [al_yr] at w; simp at w; exact w.1
          obtain ⟨e1, e2, e3, e4⟩ := (hC.2.2 i hi).2 ha
          rw [hU 0 (by decide) (by decide) (by decide), hU 3 (by decide) (by decide) (by decide), hU 4 (by decide) (by decide) (by decide)]
          exact ⟨e1, q2 ha, e3, e4⟩
  unfold f_X3_passYear
  rw [c_floors hA hC fu hfu hs]
  simp only [bd]
  rw [c_living hA hC fu hfu]
  simp only []
  exact loop fu 0 T (by omega) (by omega) (fun _ _ _ _ => rfl) rfl (fun i hi => absurd hi (by omega)) (fun i _ => ⟨rfl, rfl⟩)
theorem mvd_n {A : AB} (hA : OKA A) (s : Nat) : mvd A s 8 = mvd A s (A 6 0) := ct_tail (fun j hj => by simp [al_f hj]) 8 hA.1
theorem mvs_pos {A : AB} {s i : Nat} : 0 < mvs A s i ↔ (al A i && !s.testBit i && decide (0 < ups A s i)) = true := by
  unfold mvs
  by_cases h : al A i = true ∧ s.testBit i = false
  · rw [if_pos h]; simp [h.1, h.2]
  · rw [if_neg h]
    simp only [Nat.lt_irrefl, false_iff, Bool.and_eq_true, decide_eq_true_eq, Bool.not_eq_true']
    exact fun q => h q.1
theorem mvs_le (A : AB) (s i : Nat) : mvs A s i ≤ 8 := by
  unfold mvs ups
  have := abv_le A s i
  repeat' split
  all_goals omega
theorem m_year {M : S32} {A : AB} (hA : OKA A) (hM : MT M A) (fu : Nat) (hfu : 9 ≤ fu) {s : Nat} (hs : inA A s) : ∃ M2 : S32, f_X5_goesYear fu M (nI s) = some (nI (mvd A s 8), M2) ∧ MT M2 (yr A s) ∧ (∀ a, a ≠ 2 → a ≠ 3 → a ≠ 7 → a ≠ 21 → M2 a = M a) ∧ ∀ i, i < A 6 0 → M2 2 i = M 2 i ∨ (al A i = true ∧ M2 2 i = nI (min 99 (A 1 i + 1))) := by
  have hn := hA.1
  -- the second loop
  have loop2 : ∀ (m j : Nat) (U : S32), j ≤ A 6 0 → 9 ≤ m + j → (∀ a, a ≠ 2 → a ≠ 3 → a ≠ 21 → U a = M a) → (∀ i, i < A 6 0 → U 21 i = nI (mvs A s i)) → (∀ i, i < j → U 3 i = fI (yr A s) i ∧ (al (yr A s) i = true → U 2 i = nI (min 99 (A 1 i + 1))) ∧ (U 2 i = M 2 i ∨ (al A i = true ∧ U 2 i = nI (min 99 (A 1 i + 1))))) → (∀ i, j ≤ i → U 3 i = M 3 i ∧ U 2 i = M 2 i) →
      ∃ M2 : S32, f_X5_goesYear_32 fu m (nI s) (nI (mvd A s j)) (nI j) U = some (nI (mvd A s 8), M2) ∧ MT M2 (yr A s) ∧ (∀ a, a ≠ 2 → a ≠ 3 → a ≠ 7 → a ≠ 21 → M2 a = M a) ∧ ∀ i, i < A 6 0 → M2 2 i = M 2 i ∨ (al A i = true ∧ M2 2 i = nI (min 99 (A 1 i + 1))) := by
    intro m
    induction m with
    | zero => intro j U h1 h2; exact absurd h2 (by omega)
    | succ m ih =>
      intro j U h1 h2 hU h21 hlo hhi
      show ∃ M2 : S32, s_X5_goesYear_32 fu (f_X5_goesYear_32 fu m) _ _ _ U = some (nI (mvd A s 8), M2) ∧ MT M2 (yr A s) ∧ (∀ a, a ≠ 2 → a ≠ 3 → a ≠ 7 → a ≠ 21 → M2 a = M a) ∧ ∀ i, i < A 6 0 → M2 2 i = M 2 i ∨ (al A i = true ∧ M2 2 i = nI (min 99 (A 1 i + 1)))
      unfold s_X5_goesYear_32
      rw [hU 6 (by decide) (by decide) (by decide), hM.1]
      rcases Nat.lt_or_ge j (A 6 0) with hj | hj
      · have hj8 : j < 8 := by omega
        have mv : mvd A s (j + 1) = mvd A s j + (if al A j && !s.testBit j && decide (0 < ups A s j) then 1 else 0) := fb_ct_succ _ _
        rw [if_neg (nI_ge hj (by omega)), bit_get s hs.1 j hj8, gd_in hj8 (by omega), nI_clamp (by omega)]
        obtain ⟨u3, u2⟩ := hhi j (Nat.le_refl _)
        have ef := (hM.2.2 j hj).1
        by_cases hb : s.testBit j = true
        · have ha := hs.2 j hb
          rw [if_pos hb, if_pos rfl]
          unfold f_X5_goesYear_56
          have e3 : sa U 3 (upd (U 3) j (-1)) 3 j = -1 := by rw [sa_eq, if_pos rfl, pk_us]
          rw [gd_in hj8 (by omega), nI_clamp (by omega), e3, if_neg (by decide), nI_1]
          rw [show mvd A s j = mvd A s (j + 1) by rw [mv, hb]; simp]
          refine ih (j + 1) _ (by omega) (by omega) ?_ ?_ ?_ ?_
          · intro a a2 a3 a21
            rw [sa_eq, if_neg a3]; exact hU a a2 a3 a21
          · intro i hi
            rw [sa_eq, if_neg (by decide)]; exact h21 i hi
          · intro i hi
            rw [sa_eq, if_pos rfl, sa_eq, if_neg (by decide)]
            by_cases hij : i = j
            · subst hij
              refine ⟨by rw [pk_us, fI, al_yr, hb]; simp, fun w => ?_, Or.inl u2⟩
              rw [al_yr, hb] at w; simp at w
            · obtain ⟨q1, q2⟩ := hlo i (by omega)
              exact ⟨by rw [pk_un hij]; exact q1, q2⟩
          · intro i hi
            rw [sa_eq, if_pos rfl, sa_eq, if_neg (by decide)]
            have hij : i ≠ j := by omega
            obtain ⟨q1, q2⟩ := hhi i (by omega)
            exact ⟨by rw [pk_un hij]; exact q1, q2⟩
        · have hb2 : s.testBit j = false := by simpa using hb
          rw [if_neg hb, if_neg (by decide)]
          unfold f_X5_goesYear_56
          simp only [gd_in hj8 (show 8 < 2 ^ 31 by omega), nI_clamp (show j < 2 ^ 31 by omega), u3, u2, h21 j hj]
          by_cases ha : al A j = true
          · have hf := (hA.2.1 j ha).2.2.1
            have hag := (hA.2.1 j ha).2.1
            obtain ⟨e1, e2, -, -⟩ := (hM.2.2 j hj).2 ha
            rw [fI, if_pos ha] at ef
            have hm := mvs_le A s j
            have hmu : mvs A s j = ups A s j := by unfold mvs; rw [if_pos ⟨ha, hb2⟩]
            have el : f_X5_least fu (99 : Int32) (nI (A 1 j) + (1 : Int32)) = some (nI (min 99 (A 1 j + 1))) := by
              unfold f_X5_least
              rw [nI_1]
              by_cases q : A 1 j + 1 ≤ 99
              · rw [if_pos (show nI (A 1 j + 1) ≤ (99 : Int32) from (nI_leI (b := 99) (by omega) (by omega)).mpr q), show min 99 (A 1 j + 1) = A 1 j + 1 by omega]
              · rw [if_neg (show ¬ nI (A 1 j + 1) ≤ (99 : Int32) from fun w => q ((nI_leI (b := 99) (by omega) (by omega)).mp w)), show min 99 (A 1 j + 1) = 99 by omega]; rfl
            rw [ef, if_pos (nI_p (by omega)), e2, el]
            simp only [bd]
            rw [nI_1, nI_add, nI_a0, nI_1]
            have go : ∀ v, v = mvd A s (j + 1) → ∃ M2 : S32, f_X5_goesYear_32 fu m (nI s) (nI v) (nI (j + 1)) (sa (sa U 2 (upd (U 2) j (nI (min 99 (A 1 j + 1))))) 3 (upd (U 3) j (nI (A 2 j + mvs A s j)))) = some (nI (mvd A s 8), M2) ∧ MT M2 (yr A s) ∧ (∀ a, a ≠ 2 → a ≠ 3 → a ≠ 7 → a ≠ 21 → M2 a = M a) ∧ ∀ i, i < A 6 0 → M2 2 i = M 2 i ∨ (al A i = true ∧ M2 2 i = nI (min 99 (A 1 i + 1))) := by
              intro v hv
              subst hv
              refine ih (j + 1) _ (by omega) (by omega) ?_ ?_ ?_ ?_
              · intro a a2 a3 a21
                rw [sa_eq, if_neg a3, sa_eq, if_neg a2]; exact hU a a2 a3 a21
              · intro i hi
                rw [sa_eq, if_neg (by decide), sa_eq, if_neg (by decide)]; exact h21 i hi
              · intro i hi
                rw [sa_eq, if_pos rfl, sa_eq, if_neg (by decide), sa_eq, if_pos rfl]
                by_cases hij : i = j
                · subst hij
                  refine ⟨?_, fun _ => by rw [pk_us], Or.inr ⟨ha, by rw [pk_us]⟩⟩
                  rw [pk_us, fI, al_yr, ha, hb2, hmu]; simp [yr]
                · obtain ⟨q1, q2, q3⟩ := hlo i (by omega)
                  exact ⟨by rw [pk_un hij]; exact q1, fun w => by rw [pk_un hij]; exact q2 w, by rw [pk_un hij]; exact q3⟩
              · intro i hi
                rw [sa_eq, if_pos rfl, sa_eq, if_neg (by decide), sa_eq, if_pos rfl]
                have hij : i ≠ j := by omega
                obtain ⟨q1, q2⟩ := hhi i (by omega)
                exact ⟨by rw [pk_un hij]; exact q1, by rw [pk_un hij]; exact q2⟩
            by_cases hz : mvs A s j = 0
            · rw [if_pos (show nI (mvs A s j) ≤ (0 : Int32) by rw [hz]; decide)]
              exact go _ (by rw [mv, ← hmu, hz]; simp)
            · rw [if_neg (show ¬ nI (mvs A s j) ≤ (0 : Int32) from nI_nle (by omega) (by omega))]
              exact go _ (by rw [mv, ha, hb2, ← hmu]; simp; omega)
          · rw [fI, if_neg ha] at ef
            rw [ef, if_neg (by decide), nI_1, show mvd A s j = mvd A s (j + 1) by rw [mv]; simp [ha]]
            refine ih (j + 1) U (by omega) (by omega) hU h21 ?_ (fun i hi => hhi i (by omega))
            intro i hi
            by_cases hij : i = j
            · subst hij
              refine ⟨by rw [u3, ef, fI, al_yr]; simp [ha], fun w => ?_, Or.inl u2⟩
              rw [al_yr] at w; simp [ha] at w
            · exact hlo i (by omega)
      · obtain rfl : j = A 6 0 := by omega
        rw [if_pos (nI_le (Nat.le_refl _) (by omega))]
        unfold f_X5_goesYear_125
        rw [← mvd_n hA]
        refine ⟨_, rfl, ⟨?_, ?_, ?_⟩, ?_, ?_⟩
        · rw [sa_eq, if_neg (by decide), hU 6 (by decide) (by decide) (by decide)]; exact hM.1
        · rw [sa_eq, if_pos rfl, hU 7 (by decide) (by decide) (by decide), hM.2.1, nI_1]; rfl
        · intro i hi
          have hi : i < A 6 0 := hi
          obtain ⟨q1, q2, -⟩ := hlo i hi
          rw [sa_eq, if_neg (by decide), sa_eq, if_neg (by decide), sa_eq, if_neg (by decide), sa_eq, if_neg (by decide), sa_eq, if_neg (by decide)]
          refine ⟨q1, fun w => ?_⟩
          have ha : al A i = true := by rw [al_yr] at w; simp at w; exact w.1
          obtain ⟨e1, e2, e3, e4⟩ := (hM.2.2 i hi).2 ha
          rw [hU 1 (by decide) (by decide) (by decide), hU 4 (by decide) (by decide) (by decide), hU 5 (by decide) (by decide) (by decide)]
          exact ⟨e1, q2 w, e3, e4⟩
        · intro a a2 a3 a7 a21
          rw [sa_eq, if_neg a7]; exact hU a a2 a3 a21
        · intro i hi
          rw [sa_eq, if_neg (by decide)]; exact (hlo i hi).2.2
  -- the first loop
  have loop1 : ∀ (m j : Nat) (U : S32), j ≤ A 6 0 → 9 ≤ m + j → (∀ a, a ≠ 21 → U a = M a) → (∀ i, i < j → U 21 i = nI (mvs A s i)) →
      ∃ M2 : S32, f_X5_goesYear_4 fu m (nI s) 0 (nI j) U = some (nI (mvd A s 8), M2) ∧ MT M2 (yr A s) ∧ (∀ a, a ≠ 2 → a ≠ 3 → a ≠ 7 → a ≠ 21 → M2 a = M a) ∧ ∀ i, i < A 6 0 → M2 2 i = M 2 i ∨ (al A i = true ∧ M2 2 i = nI (min 99 (A 1 i + 1))) := by
    intro m
    induction m with
    | zero => intro j U h1 h2; exact absurd h2 (by omega)
    | succ m ih =>
      intro j U h1 h2 hU h21
      show ∃ M2 : S32, s_X5_goesYear_4 fu (f_X5_goesYear_4 fu m) _ _ _ U = some (nI (mvd A s 8), M2) ∧ MT M2 (yr A s) ∧ (∀ a, a ≠ 2 → a ≠ 3 → a ≠ 7 → a ≠ 21 → M2 a = M a) ∧ ∀ i, i < A 6 0 → M2 2 i = M 2 i ∨ (al A i = true ∧ M2 2 i = nI (min 99 (A 1 i + 1)))
      unfold s_X5_goesYear_4
      have hMU : MT U A := MT_fr hM (fun a h1 h2 => hU a (by omega))
      rw [hU 6 (by decide), hM.1]
      rcases Nat.lt_or_ge j (A 6 0) with hj | hj
      · rw [if_neg (nI_ge hj (by omega)), m_moves hA hMU fu hfu hs hj]
        simp only [bd]
        rw [gd_in (show j < 8 by omega) (by omega), nI_clamp (by omega), nI_1]
        refine ih (j + 1) _ (by omega) (by omega) (fun a ha => by rw [sa_eq, if_neg ha]; exact hU a ha) (fun i hi => ?_)
        rw [sa_eq, if_pos rfl]
        by_cases hij : i = j
        · subst hij; rw [pk_us]
        · rw [pk_un hij]; exact h21 i (by omega)
      · obtain rfl : j = A 6 0 := by omega
        rw [if_pos (nI_le (Nat.le_refl _) (by omega))]
        exact loop2 fu 0 U (by omega) (by omega) (fun a _ _ h => hU a h) h21 (fun i hi => absurd hi (by omega)) (fun i _ => ⟨by rw [hU 3 (by decide)], by rw [hU 2 (by decide)]⟩)
  exact loop1 fu 0 M (by omega) (by omega) (fun _ _ => rfl) (fun i hi => absurd hi (by omega))
/-- the state behind a year is as it must be -/
theorem abv_bits {A : AB} (hA : OKA A) {s : Nat} (hs : inA A s) (i : Nat) : abv A s i = fb_ct (fun x => (fst' A s 8).testBit (A 2 i + 1 + x)) 10 := by
  have h := ct_floors hA hs (A 2 i + 1) 8 (Nat.le_refl _)
  have e : abv A s i = fb_ct (fun j => s.testBit j && decide (A 2 i + 1 ≤ A 2 j)) 8 := rfl
  rw [e, ← h]
  apply fb_ct_cong
  intro k _
  rw [Nat.testBit_div_two_pow, Nat.add_comm k]
theorem abv_room {A : AB} (hA : OKA A) {s i : Nat} (hs : inA A s) (h : al A i = true) : A 2 i + abv A s i ≤ 9 := by
  have hf := (hA.2.1 i h).2.2.1
  have hF := fst_lt hA hs 8
  rw [abv_bits hA hs, ct_tail (n := 9 - A 2 i) _ 10 (by omega)]
  · have := fb_ct_le (fun x => (fst' A s 8).testBit (A 2 i + 1 + x)) (9 - A 2 i)
    omega
  · intro j hj
    exact Nat.testBit_lt_two_pow (Nat.lt_of_lt_of_le hF (show 1024 ≤ 2 ^ (A 2 i + 1 + j) from Nat.pow_le_pow_right (n := 2) (by omega) (show 10 ≤ A 2 i + 1 + j by omega)))
theorem ups_le {A : AB} (hA : OKA A) {s i : Nat} (hs : inA A s) (h : al A i = true) : A 2 i + ups A s i ≤ 9 := by
  have := abv_room hA hs h
  have := (hA.2.1 i h).2.2.1
  unfold ups
  split
  · omega
  · omega
/-- nobody passes another one -/
theorem ups_sep {A : AB} (hA : OKA A) {s i j : Nat} (hs : inA A s) (hi : al A i = true) (hj : al A j = true) (hbj : s.testBit j = false) (hij : A 2 i < A 2 j) : A 2 i + ups A s i < A 2 j + ups A s j := by
  have hfj := (hA.2.1 j hj).2.2.1
  have key : abv A s i ≤ abv A s j + (A 2 j - A 2 i - 1) := by
    rw [abv_bits hA hs i, abv_bits hA hs j]
    have e1 := fb_ct_split (fun x => (fst' A s 8).testBit (A 2 i + 1 + x)) (A 2 j - A 2 i) (10 - (A 2 j - A 2 i))
    rw [show A 2 j - A 2 i + (10 - (A 2 j - A 2 i)) = 10 by omega] at e1
    rw [e1]
    have e2 : fb_ct (fun x => (fst' A s 8).testBit (A 2 i + 1 + x)) (A 2 j - A 2 i) ≤ A 2 j - A 2 i - 1 := by
      have e3 : A 2 j - A 2 i = (A 2 j - A 2 i - 1) + 1 := by omega
      rw [e3, fb_ct_succ]
      have e4 : (fst' A s 8).testBit (A 2 i + 1 + (A 2 j - A 2 i - 1)) = false := by
        rw [show A 2 i + 1 + (A 2 j - A 2 i - 1) = A 2 j by omega]
        cases hq : (fst' A s 8).testBit (A 2 j) with
        | false => rfl
        | true =>
          obtain ⟨k, -, hk1, hk2⟩ := (fst_test 8 _).mp hq
          have := hA.2.2 k j (hs.2 k hk1) hj hk2
          rw [this, hbj] at hk1; cases hk1
      rw [e4]
      have := fb_ct_le (fun x => (fst' A s 8).testBit (A 2 i + 1 + x)) (A 2 j - A 2 i - 1)
      simpa using this
    have e5 : fb_ct (fun x => (fst' A s 8).testBit (A 2 i + 1 + (A 2 j - A 2 i + x))) (10 - (A 2 j - A 2 i)) ≤ fb_ct (fun x => (fst' A s 8).testBit (A 2 j + 1 + x)) 10 := by
      rw [fb_ct_cong (q := fun x => (fst' A s 8).testBit (A 2 j + 1 + x)) (fun k _ => by rw [show A 2 i + 1 + (A 2 j - A 2 i + k) = A 2 j + 1 + k by omega])]
      exact fb_ct_mono _ (by omega)
    omega
  unfold ups
  by_cases qi : A 0 i = 3 ∧ A 2 i = 0
  · rw [if_pos qi]; split <;> omega
  · rw [if_neg qi, if_neg (fun q : A 0 j = 3 ∧ A 2 j = 0 => by omega)]; omega
theorem OKA_yr {A : AB} (hA : OKA A) {s : Nat} (hs : inA A s) : OKA (yr A s) := by
  refine ⟨hA.1, ?_, ?_⟩
  · intro i h
    rw [al_yr] at h
    simp only [Bool.and_eq_true, Bool.not_eq_true'] at h
    obtain ⟨h0, h1, h2, h3, h4⟩ := hA.2.1 i h.1
    have := ups_le hA hs h.1
    refine ⟨h0, ?_, this, h3, h4⟩
    show min 99 (A 1 i + 1) ≤ 99
    omega
  · intro i j hi hj hf
    rw [al_yr] at hi hj
    simp only [Bool.and_eq_true, Bool.not_eq_true'] at hi hj
    have hf : A 2 i + ups A s i = A 2 j + ups A s j := hf
    rcases Nat.lt_trichotomy (A 2 i) (A 2 j) with q | q | q
    · have := ups_sep hA hs hi.1 hj.1 hj.2 q; omega
    · exact hA.2.2 i j hi.1 hj.1 q
    · have := ups_sep hA hs hj.1 hi.1 hi.2 q; omega
