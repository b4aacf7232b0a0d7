/-! what the kinds differ in, by tables -/
def ef (k a : Nat) : Nat := if k = 3 then 0 else if k = 5 then a / 10 - 1 else a / 10
def chn (k a : Nat) : Nat := if k = 1 then a / 10 / 2 else if k = 2 then min 10 (a / 10 + 3) else if k = 4 then min 10 (a / 10 + 3) - 2 else if k = 5 then (if a < 50 then 0 else a / 10 / 2) else a / 10
def clm (k a : Nat) : Nat := if k = 1 ∨ k = 5 then min 9 (9 - a / 12 + 2) else 9 - a / 12
theorem tb_ef4 : ∀ k, k < 6 → ∀ a, a < 100 → f_X0_entryFloor 0 (nI k) (nI a) = some (nI (ef k a)) := by decide +kernel
theorem tb_ef5 : ∀ k, k < 6 → ∀ a, a < 100 → f_X5_entryOf 0 (nI k) (nI a) = some (nI (ef k a)) := by decide +kernel
theorem tb_ch4 : ∀ k, k < 6 → ∀ a, a < 100 → f_X0_chance 0 (nI k) (nI a) = some (nI (chn k a)) := by decide +kernel
theorem tb_cl4 : ∀ k, k < 6 → ∀ a, a < 100 → f_X0_climb 0 (nI k) (nI a) = some (nI (clm k a)) := by decide +kernel
theorem tb_cl5 : ∀ k, k < 6 → ∀ a, a < 100 → f_X5_climbs 0 (nI k) (nI a) = some (nI (clm k a)) := by decide +kernel
theorem ef_le : ∀ k, k < 6 → ∀ a, a < 100 → ef k a ≤ 9 := by decide +kernel
theorem chn_le : ∀ k, k < 6 → ∀ a, a < 100 → chn k a ≤ 10 := by decide +kernel
theorem clm_b : ∀ k, k < 6 → ∀ a, a < 100 → clm k a ≤ 9 ∧ 1 ≤ clm k a := by decide +kernel
theorem clm_mono : ∀ k, k < 6 → ∀ a, a < 99 → clm k (a + 1) ≤ clm k a := by decide +kernel
theorem c_ef (fu : Nat) {k a : Nat} (hk : k ≤ 5) (ha : a ≤ 99) : f_X0_entryFloor fu (nI k) (nI a) = some (nI (ef k a)) := tb_ef4 k (by omega) a (by omega)
theorem m_ef (fu : Nat) {k a : Nat} (hk : k ≤ 5) (ha : a ≤ 99) : f_X5_entryOf fu (nI k) (nI a) = some (nI (ef k a)) := tb_ef5 k (by omega) a (by omega)
theorem c_ch0 (fu : Nat) {k a : Nat} (hk : k ≤ 5) (ha : a ≤ 99) : f_X0_chance fu (nI k) (nI a) = some (nI (chn k a)) := tb_ch4 k (by omega) a (by omega)
theorem c_cl0 (fu : Nat) {k a : Nat} (hk : k ≤ 5) (ha : a ≤ 99) : f_X0_climb fu (nI k) (nI a) = some (nI (clm k a)) := tb_cl4 k (by omega) a (by omega)
theorem m_cl (fu : Nat) {k a : Nat} (hk : k ≤ 5) (ha : a ≤ 99) : f_X5_climbs fu (nI k) (nI a) = some (nI (clm k a)) := tb_cl5 k (by omega) a (by omega)
def chB (x y : Int32) : Option Int32 := if x = (1 : Int32) then some (y / (10 : Int32) / (2 : Int32)) else if x = (2 : Int32) then bd (f_X5_least 0 (10 : Int32) (y / (10 : Int32) + (3 : Int32))) (fun o => some o) else if x = (3 : Int32) then some (y / (10 : Int32)) else if x = (4 : Int32) then bd (f_X5_least 0 (10 : Int32) (y / (10 : Int32) + (3 : Int32))) (fun o => some (o - (2 : Int32))) else if x = (5 : Int32) then (if (50 : Int32) ≤ y then some (y / (10 : Int32) / (2 : Int32)) else some (0 : Int32)) else some (y / (10 : Int32))
theorem tb_ch5 : ∀ k, k < 6 → ∀ a, a < 100 → chB (nI k) (nI a) = some (nI (chn k a)) := by decide +kernel
theorem m_ch {M : S32} {A : AB} (hA : OKA A) (hM : MT M A) (fu : Nat) {i : Nat} (h : al A i = true) : f_X5_chanceOf fu M (nI i) = some (nI (chn (A 0 i) (A 1 i))) := by
  have hi := al_lt8 hA h
  obtain ⟨h0, h1, -, -⟩ := hA.2.1 i h
  obtain ⟨e1, e2, -, -⟩ := (hM.2.2 i (al_lt h)).2 h
  have e := tb_ch5 (A 0 i) (by omega) (A 1 i) (by omega)
  unfold f_X5_chanceOf
  simp only [gd_in hi (show 8 < 2 ^ 31 by omega), nI_clamp (show i < 2 ^ 31 by omega), e1, e2]
  exact e
theorem nI_addlt {a b : Nat} (h : a + b < 2 ^ 31) : nI a + nI b < nI 99 ↔ a + b < 99 := by
  rw [nI_add]; exact nI_ltI h (by omega)
theorem c_age {T : S32} {A : AB} (hA : OKA A) (hC : CT T A) (fu : Nat) {i y : Nat} (h : al A i = true) (hy : y ≤ 99) : f_X3_ageAfter fu T (nI i) (nI y) = some (nI (min 99 (A 1 i + y))) := by
  have hi := al_lt8 hA h
  obtain ⟨h0, h1, -, -⟩ := hA.2.1 i h
  obtain ⟨e1, e2, -, -⟩ := (hC.2.2 i (al_lt h)).2 h
  unfold f_X3_ageAfter
  rw [gd_in hi (by omega), nI_clamp (by omega), e2, nI_add]
  by_cases q : A 1 i + y < 99
  · rw [if_pos (show nI (A 1 i + y) < (99 : Int32) from (nI_ltI (b := 99) (by omega) (by omega)).mpr q), show min 99 (A 1 i + y) = A 1 i + y by omega]
  · rw [if_neg (show ¬ nI (A 1 i + y) < (99 : Int32) from fun w => q ((nI_ltI (b := 99) (by omega) (by omega)).mp w)), show min 99 (A 1 i + y) = 99 by omega]; rfl
theorem c_ch {T : S32} {A : AB} (hA : OKA A) (hC : CT T A) (fu : Nat) {i y : Nat} (h : al A i = true) (hy : y ≤ 99) : f_X3_chanceAfter fu T (nI i) (nI y) = some (nI (chn (A 0 i) (min 99 (A 1 i + y)))) := by
  have hi := al_lt8 hA h
  obtain ⟨h0, h1, -, -⟩ := hA.2.1 i h
  obtain ⟨e1, e2, -, -⟩ := (hC.2.2 i (al_lt h)).2 h
  unfold f_X3_chanceAfter
  rw [gd_in hi (by omega), c_age hA hC fu h hy]
  simp only [bd]
  rw [nI_clamp (by omega), e1, c_ch0 fu h0 (by omega)]
theorem c_cl {T : S32} {A : AB} (hA : OKA A) (hC : CT T A) (fu : Nat) {i y : Nat} (h : al A i = true) (hy : y ≤ 99) : f_X3_climbAfter fu T (nI i) (nI y) = some (nI (clm (A 0 i) (min 99 (A 1 i + y)))) := by
  have hi := al_lt8 hA h
  obtain ⟨h0, h1, -, -⟩ := hA.2.1 i h
  obtain ⟨e1, e2, -, -⟩ := (hC.2.2 i (al_lt h)).2 h
  unfold f_X3_climbAfter
  rw [gd_in hi (by omega), c_age hA hC fu h hy]
  simp only [bd]
  rw [nI_clamp (by omega), e1, c_cl0 fu h0 (by omega)]
theorem c_down {T : S32} {A : AB} (hA : OKA A) (hC : CT T A) (fu : Nat) {i : Nat} (h : al A i = true) : f_X3_staysDown fu T (nI i) = some (if A 0 i = 3 ∧ A 2 i = 0 then 1 else 0) := by
  have hi := al_lt8 hA h
  obtain ⟨h0, h1, h2, -⟩ := hA.2.1 i h
  obtain ⟨e1, e2, -, -⟩ := (hC.2.2 i (al_lt h)).2 h
  have e3 := (hC.2.2 i (al_lt h)).1
  unfold f_X3_staysDown
  rw [gd_in hi (by omega), gd_in hi (by omega), nI_clamp (by omega), e1, e3, fI, if_pos h]
  by_cases q : A 0 i = 3
  · rw [if_pos (show nI (A 0 i) = (3 : Int32) by rw [q]; rfl)]
    by_cases q2 : A 2 i = 0
    · rw [if_pos (show nI (A 2 i) = (0 : Int32) by rw [q2]; rfl), if_pos ⟨q, q2⟩]
    · rw [if_neg (show ¬ nI (A 2 i) = (0 : Int32) from fun w => q2 ((nI_z (by omega)).mp w)), if_neg (fun w => q2 w.2)]
  · rw [if_neg (show ¬ nI (A 0 i) = (3 : Int32) from fun w => q ((nI_eq (b := 3) (by omega) (by omega)).mp w)), if_neg (fun w => q w.1)]
/-! floors of a set, and how many of it are above -/
def fst' (A : AB) (s : Nat) : Nat → Nat
  | 0 => 0
  | n + 1 => if s.testBit n then fst' A s n ||| 2 ^ A 2 n else fst' A s n
/-- how many of the set s live above i -/
def abv (A : AB) (s i : Nat) : Nat := fb_ct (fun j => s.testBit j && decide (A 2 i < A 2 j)) 8
/-- by how many floors i moves up when the set s dies -/
def ups (A : AB) (s i : Nat) : Nat := if A 0 i = 3 ∧ A 2 i = 0 then 0 else abv A s i
theorem abv_le (A : AB) (s i : Nat) : abv A s i ≤ 8 := fb_ct_le _ 8
theorem holds_is (fu : Nat) {s i : Nat} (hs : s < 256) (hi : i < 8) : f_X3_holds fu (nI s) (nI i) = some (if s.testBit i then 1 else 0) := by
  unfold f_X3_holds
  rw [bit_get s hs i hi]
  by_cases h : s.testBit i = true
  · rw [if_pos h, if_neg (by decide)]
  · rw [if_neg h, if_pos rfl]
theorem fst_lt {A : AB} (hA : OKA A) {s : Nat} (hs : inA A s) : ∀ n, fst' A s n < 1024
  | 0 => by simp [fst']
  | n + 1 => by
    unfold fst'
    have h := fst_lt hA hs n
    by_cases hb : s.testBit n = true
    · rw [if_pos hb]
      have := (hA.2.1 n (hs.2 n hb)).2.2.1
      exact Nat.or_lt_two_pow (n := 10) h (Nat.pow_lt_pow_right (by omega) (by omega))
    · rw [if_neg hb]; exact h
theorem fst_test {A : AB} {s : Nat} : ∀ n f, (fst' A s n).testBit f = true ↔ ∃ j, j < n ∧ s.testBit j = true ∧ A 2 j = f
  | 0, f => by simp [fst']
  | n + 1, f => by
    unfold fst'
    by_cases hb : s.testBit n = true
    · rw [if_pos hb, Nat.testBit_or, Nat.testBit_two_pow, Bool.or_eq_true, fst_test n f, decide_eq_true_eq]
      constructor
      · rintro (⟨j, h1, h2, h3⟩ | h)
        · exact ⟨j, by omega, h2, h3⟩
        · exact ⟨n, by omega, hb, h⟩
      · rintro ⟨j, h1, h2, h3⟩
        by_cases hj : j = n
        · subst hj; exact Or.inr h3
        · exact Or.inl ⟨j, by omega, h2, h3⟩
    · rw [if_neg hb, fst_test n f]
      constructor
      · rintro ⟨j, h1, h2, h3⟩
        exact ⟨j, by omega, h2, h3⟩
      · rintro ⟨j, h1, h2, h3⟩
        by_cases hj : j = n
        · subst hj; exact absurd h2 hb
        · exact ⟨j, by omega, h2, h3⟩
theorem c_floors {T : S32} {A : AB} (hA : OKA A) (hC : CT T A) (fu : Nat) (hfu : 9 ≤ fu) {s : Nat} (hs : inA A s) : f_X3_floorsOf fu T (nI s) = some (nI (fst' A s 8)) := by
  refine itr_for (fun _ _ _ => none) (fun k => s_X3_floorsOf_4 fu k T) (fun i k => k (nI s) (nI (fst' A s i)) (nI i)) (fun _ => some (nI (fst' A s 8))) 8 (fun _ => True) (fun k _ => ?_) (fun k i hi _ hk => ?_) fu 0 (by omega) (by omega) trivial
  · show s_X3_floorsOf_4 fu k T _ _ _ = _
    unfold s_X3_floorsOf_4
    rw [if_pos (show (8 : Int32) ≤ nI 8 by decide)]
  · show s_X3_floorsOf_4 fu k T _ _ _ = _
    unfold s_X3_floorsOf_4
    rw [if_neg (i8 hi), holds_is fu hs.1 hi]
    simp only [bd]
    have hk := hk trivial
    rw [show fst' A s (i + 1) = if s.testBit i then fst' A s i ||| 2 ^ A 2 i else fst' A s i from rfl] at hk
    rw [nI_1]
    by_cases h : s.testBit i = true
    · have ha := hs.2 i h
      have hf := (hA.2.1 i ha).2.2.1
      rw [if_pos h] at hk
      rw [if_pos h, if_neg (by decide), gd_in hi (by omega), nI_clamp (by omega), (hC.2.2 i (al_lt ha)).1, fI, if_pos ha, bit_one _ (by omega), fa_or, hk]
    · rw [if_neg h] at hk
      rw [if_neg h, if_pos rfl, hk]
theorem tb_bc : ∀ x, x < 1024 → f_J6_bitCount_0f7a4 0 (nI x) = some (nI (fb_ct (fun j => x.testBit j) 10)) := by decide +kernel
theorem tb_sm : ∀ g, g < 11 → ((nI g &&& 31 : Int32).toBitVec.smod 32).toNat = g := by decide +kernel
theorem tb_sh : ∀ g, g < 11 → ∀ x, x < 1024 → nI x >>> (nI g &&& 31) = nI (x / 2 ^ g) := fun g hg x hx => pk_shrN (by omega) _ g (tb_sm g hg)
theorem bitc (fu : Nat) {x : Nat} (h : x < 1024) : f_J6_bitCount_0f7a4 fu (nI x) = some (nI (fb_ct (fun j => x.testBit j) 10)) := tb_bc x h
/-- bits at g and above of the floors of a set: as many as of the set live there -/
theorem ct_floors {A : AB} (hA : OKA A) {s : Nat} (hs : inA A s) (g : Nat) : ∀ n, n ≤ 8 → fb_ct (fun j => (fst' A s n / 2 ^ g).testBit j) 10 = fb_ct (fun j => s.testBit j && decide (g ≤ A 2 j)) n
  | 0, _ => by
    rw [fb_ct_zero.mpr]
    · rfl
    · intro k _
      simp [fst']
  | n + 1, hn => by
    rw [fb_ct_succ (fun j => s.testBit j && decide (g ≤ A 2 j)) n, ← ct_floors hA hs g n (by omega)]
    rw [show fst' A s (n + 1) = if s.testBit n then fst' A s n ||| 2 ^ A 2 n else fst' A s n from rfl]
    by_cases hb : s.testBit n = true
    · have ha := hs.2 n hb
      have hf := (hA.2.1 n ha).2.2.1
      rw [if_pos hb, hb, Bool.true_and]
      have e : ∀ j, ((fst' A s n ||| 2 ^ A 2 n) / 2 ^ g).testBit j = ((fst' A s n / 2 ^ g).testBit j || decide (A 2 n = g + j)) := by
        intro j
        rw [Nat.testBit_div_two_pow, Nat.testBit_or, Nat.testBit_two_pow, Nat.testBit_div_two_pow, Nat.add_comm j g]
      rw [fb_ct_cong (fun k _ => e k), fb_ct_or]
      · congr 1
        by_cases hg : g ≤ A 2 n
        · rw [if_pos (by simpa using hg)]
          have h1 : fb_ct (fun k => decide (A 2 n = g + k)) 10 + (if (fun _ : Nat => false) (A 2 n - g) then 1 else 0) = fb_ct (fun _ => false) 10 + (if true then 1 else 0) := by
            rw [← fb_ct_upd (fun _ => false) true (i := A 2 n - g) (n := 10) (by omega)]
            congr 1
            apply fb_ct_cong
            intro k _
            by_cases q : k = A 2 n - g
            · rw [if_pos q, decide_eq_true]; omega
            · rw [if_neg q, decide_eq_false]; omega
          have h2 : fb_ct (fun _ : Nat => false) 10 = 0 := fb_ct_zero.mpr (fun _ _ => rfl)
          simpa [h2] using h1
        · rw [if_neg (by simpa using hg)]
          apply fb_ct_zero.mpr
          intro k _
          rw [decide_eq_false]; omega
      · rintro k _ ⟨h1, h2⟩
        rw [Nat.testBit_div_two_pow, fst_test] at h1
        obtain ⟨j, h3, h4, h5⟩ := h1
        have h6 : A 2 n = g + k := by simpa using h2
        have := hA.2.2 j n (hs.2 j h4) ha (by omega)
        omega
    · rw [if_neg hb]
      simp [hb]
theorem c_up {T : S32} {A : AB} (hA : OKA A) (hC : CT T A) (fu : Nat) {s i : Nat} (hs : inA A s) (h : al A i = true) : f_X3_floorsUp fu T (nI i) (nI (fst' A s 8)) = some (nI (ups A s i)) := by
  have hi := al_lt8 hA h
  have hf := (hA.2.1 i h).2.2.1
  have hF := fst_lt hA hs 8
  unfold f_X3_floorsUp
  rw [c_down hA hC fu h]
  simp only [bd]
  unfold ups
  by_cases q : A 0 i = 3 ∧ A 2 i = 0
  · rw [if_pos q, if_neg (by decide), if_pos q]; rfl
  · rw [if_neg q, if_pos rfl, if_neg q, gd_in hi (by omega), nI_clamp (by omega), (hC.2.2 i (al_lt h)).1, fI, if_pos h, nI_1, tb_sh _ (by omega) _ hF, bitc fu (Nat.lt_of_le_of_lt (Nat.div_le_self _ _) hF), ct_floors hA hs _ 8 (Nat.le_refl _)]
    rfl
