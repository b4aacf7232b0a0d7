/-! likely: the reference's side -/
def pg (B : AB) (b : Bool) (j : Nat) : Nat := if al B j then (if b then mch B j else 10 - mch B j) else (if b then 0 else 10)
def prt (B : AB) (s : Nat) : Nat → Nat
  | 0 => 1
  | n + 1 => prt B s n * pg B (s.testBit n) n
theorem mch_le {B : AB} (hB : OKA B) {j : Nat} (h : al B j = true) : mch B j ≤ 10 := by
  obtain ⟨b0, b1, -⟩ := hB.2.1 j h
  exact chn_le _ (by omega) _ (by omega)
theorem pg_sum {B : AB} (hB : OKA B) (j : Nat) : pg B false j + pg B true j = 10 := by
  unfold pg
  by_cases h : al B j = true
  · have := mch_le hB h
    rw [if_pos h, if_pos h, if_neg (by decide), if_pos rfl]; omega
  · rw [if_neg h, if_neg h, if_neg (by decide), if_pos rfl]
theorem pg_le {B : AB} (hB : OKA B) (b : Bool) (j : Nat) : pg B b j ≤ 10 := by
  have := pg_sum hB j
  cases b <;> omega
theorem prt_le {B : AB} (hB : OKA B) (s : Nat) : ∀ n, prt B s n ≤ 10 ^ n
  | 0 => Nat.le_refl 1
  | n + 1 => by rw [Nat.pow_succ]; exact Nat.mul_le_mul (prt_le hB s n) (pg_le hB _ n)
theorem sm_mul (c : Nat) (f : Nat → Nat) : ∀ n, fb_sm (fun k => f k * c) n = fb_sm f n * c
  | 0 => by simp [fb_sm]
  | n + 1 => by rw [fb_sm_succ, fb_sm_succ, sm_mul c f n, Nat.add_mul]
theorem prt_low (B : AB) {s t : Nat} : ∀ n, (∀ j, j < n → s.testBit j = t.testBit j) → prt B s n = prt B t n
  | 0, _ => rfl
  | n + 1, h => by
    show prt B s n * _ = prt B t n * _
    rw [prt_low B n (fun j hj => h j (by omega)), h n (by omega)]
theorem bit_add {n s j : Nat} (hj : j < n) : (2 ^ n + s).testBit j = s.testBit j := Nat.testBit_two_pow_add_gt hj s
theorem bit_top {n s : Nat} (hs : s < 2 ^ n) : (2 ^ n + s).testBit n = true ∧ s.testBit n = false := by
  have h := Nat.testBit_lt_two_pow hs
  refine ⟨?_, h⟩
  rw [Nat.testBit_two_pow_add_eq, h]; rfl
theorem sum_two (f : Nat → Nat) (n : Nat) : fb_sm f (2 ^ (n + 1)) = fb_sm f (2 ^ n) + fb_sm (fun s => f (2 ^ n + s)) (2 ^ n) := by
  rw [show 2 ^ (n + 1) = 2 ^ n + 2 ^ n by rw [Nat.pow_succ]; omega]
  exact fb_sm_split f _ _
theorem prt_sum {B : AB} (hB : OKA B) : ∀ n, fb_sm (fun s => prt B s n) (2 ^ n) = 10 ^ n
  | 0 => rfl
  | n + 1 => by
    rw [sum_two]
    rw [show fb_sm (fun s => prt B s (n + 1)) (2 ^ n) = fb_sm (fun s => prt B s n * pg B false n) (2 ^ n) from fb_sm_cong (fun s hs => by
      show prt B s n * pg B (s.testBit n) n = _
      rw [(bit_top hs).2])]
    rw [show fb_sm (fun s => prt B (2 ^ n + s) (n + 1)) (2 ^ n) = fb_sm (fun s => prt B s n * pg B true n) (2 ^ n) from fb_sm_cong (fun s hs => by
      show prt B (2 ^ n + s) n * pg B ((2 ^ n + s).testBit n) n = _
      rw [(bit_top hs).1, prt_low B n (fun j hj => bit_add hj)])]
    rw [sm_mul, sm_mul, prt_sum hB n, ← Nat.mul_add, pg_sum hB, Nat.pow_succ]
theorem prt_0 {B : AB} {s : Nat} : ∀ n, (∃ j, j < n ∧ s.testBit j = true ∧ al B j = false) → prt B s n = 0
  | 0, ⟨j, h, _⟩ => absurd h (by omega)
  | n + 1, ⟨j, h1, h2, h3⟩ => by
    show prt B s n * pg B (s.testBit n) n = 0
    by_cases q : j = n
    · subst q
      unfold pg
      rw [h2, h3]; simp
    · rw [prt_0 n ⟨j, by omega, h2, h3⟩, Nat.zero_mul]
theorem prt_no {B : AB} (hB : OKA B) {s n : Nat} (hs : s < 2 ^ n) (hn : n ≤ 8) (h : ¬ inA B s) : prt B s n = 0 := by
  apply prt_0
  apply Classical.byContradiction
  intro hno
  apply h
  refine ⟨Nat.lt_of_lt_of_le hs (Nat.pow_le_pow_right (n := 2) (by omega) hn), fun j hj => ?_⟩
  cases hq : al B j with
  | true => rfl
  | false =>
    exfalso
    apply hno
    refine ⟨j, ?_, hj, hq⟩
    rcases Nat.lt_or_ge j n with w | w
    · exact w
    · rw [Nat.testBit_lt_two_pow (Nat.lt_of_lt_of_le hs (Nat.pow_le_pow_right (n := 2) (by omega) w))] at hj; cases hj
theorem m_parts {M : S32} {B : AB} (hB : OKA B) (hM : MT M B) (fu : Nat) (hfu : 1000 ≤ fu) {s : Nat} (hs : inA B s) : f_X5_partsOf fu M (nI s) = some (lN (prt B s (B 6 0))) := by
  have hn := hB.1
  refine itr_for (fun _ _ _ => none) (fun k => s_X5_partsOf_5 fu k M) (fun j k => k (nI s) (lN (prt B s j)) (nI j)) (fun _ => some (lN (prt B s (B 6 0)))) (B 6 0) (fun _ => True) (fun k _ => ?_) (fun k j hj _ hk => ?_) fu 0 (by omega) (by omega) trivial
  · show s_X5_partsOf_5 fu k M _ _ _ = _
    unfold s_X5_partsOf_5
    rw [hM.1, if_pos (nI_le (Nat.le_refl _) (by omega))]
  · show s_X5_partsOf_5 fu k M _ _ _ = _
    have hk := hk trivial
    rw [show prt B s (j + 1) = prt B s j * pg B (s.testBit j) j from rfl] at hk
    unfold s_X5_partsOf_5
    rw [hM.1, if_neg (nI_ge hj (by omega)), gd_in (by omega) (by omega), nI_clamp (by omega), (hM.2.2 j hj).1, bit_get s hs.1 j (by omega), nI_1]
    by_cases h : al B j = true
    · have hc := mch_le hB h
      unfold pg at hk
      rw [if_pos h] at hk
      rw [if_pos (fI_p hB h), show f_X5_chanceOf fu M (nI j) = some (nI (mch B j)) from m_ch hB hM fu h]
      simp only [bd]
      by_cases hb : s.testBit j = true
      · rw [if_pos hb] at hk
        rw [if_pos hb, if_pos rfl, nI_l (by omega), lN_mul]; exact hk
      · rw [if_neg hb] at hk
        rw [if_neg hb, if_neg (show ¬ (0 : Int32) = 1 by decide), ten_sub hc, lN_mul]; exact hk
    · have hb : s.testBit j = false := by
        cases hq : s.testBit j with
        | false => rfl
        | true => exact absurd (hs.2 j hq) h
      unfold pg at hk
      rw [if_neg h, hb, if_neg (by decide)] at hk
      rw [if_neg (fI_n h), show (10 : Int64) = lN 10 from rfl, lN_mul]; exact hk
def fin (B : AB) (i f s : Nat) : Bool := al B i && !s.testBit i && decide (f ≤ B 2 i + ups B s i)
def qto (B : AB) (i f s : Nat) : Nat := if fin B i f s then prt B s (B 6 0) else 0
def Fr (w : Nat) (M N : S32) : Prop := (∀ a, a ≠ 1 → a ≠ 2 → a ≠ 3 → a ≠ 4 → a ≠ 5 → a ≠ 6 → a ≠ 7 → a ≠ 17 → a ≠ 19 → a ≠ 20 → a ≠ 21 → N a = M a) ∧ ∀ k, (k < 43 * w ∨ 43 * w + 42 ≤ k) → N 17 k = M 17 k
theorem DM_year {M N : S32} {B : AB} (hD : DM (M 1) (M 2) (B 6 0)) (h1 : N 1 = M 1) (h2 : ∀ i, i < B 6 0 → N 2 i = M 2 i ∨ (al B i = true ∧ N 2 i = nI (min 99 (B 1 i + 1)))) : DM (N 1) (N 2) (B 6 0) := by
  intro i hi
  obtain ⟨k1, a1, d1, d2, d3, d4⟩ := hD i hi
  rw [h1]
  rcases h2 i hi with w | ⟨-, w⟩
  · exact ⟨k1, a1, d1, d2, d3, w.trans d4⟩
  · exact ⟨k1, _, d1, by omega, d3, w⟩
/-- away, a year, and what stands then -/
theorem m_try {M : S32} {B : AB} (hB : OKA B) (hM : MT M B) (hD : DM (M 1) (M 2) (B 6 0)) (fu : Nat) (hfu : 1000 ≤ fu) {w : Nat} (hw : w = 0 ∨ w = 1 ∨ w = 2) {s : Nat} (hs : inA B s) : ∃ N1 N2 v, f_X5_passesAll fu M (nI w) 1 = some N1 ∧ f_X5_goesYear fu N1 (nI s) = some (v, N2) ∧ MT N2 (yr B s) ∧ DM (N2 1) (N2 2) (B 6 0) ∧ (∀ k, k < 42 → N2 17 (43 * w + k) = im M k) ∧ Fr w M N2 := by
  obtain ⟨N1, n1, n2, n3, n4, n5, n6⟩ := pa_keep fu (by omega) M w hw
  have hN1 : MT N1 B := MT_fr0 hM (fun a _ _ => n2 a (by omega) (by omega) (by omega) (by omega) (by omega)) n3 n4
  obtain ⟨N2, g1, g2, g3, g4⟩ := m_year hB hN1 fu (by omega) hs
  have e17 : N2 17 = N1 17 := g3 17 (by decide) (by decide) (by decide) (by decide)
  refine ⟨N1, N2, _, n1, g1, g2, DM_year (M := N1) ?_ (g3 1 (by decide) (by decide) (by decide) (by decide)) g4, fun k hk => by rw [e17]; exact n5 k hk, fun a a1 a2 a3 a4 a5 a6 a7 a17 a19 a20 a21 => (g3 a a2 a3 a7 a21).trans (n2 a a6 a7 a17 a19 a20), fun k hk => by rw [e17]; exact n6 k hk⟩
  rw [n2 1 (by decide) (by decide) (by decide) (by decide) (by decide), n2 2 (by decide) (by decide) (by decide) (by decide) (by decide)]
  exact hD
theorem Fr_tr {w : Nat} {M N T : S32} (h1 : Fr w M N) (h2 : Fr w N T) : Fr w M T := ⟨fun a a1 a2 a3 a4 a5 a6 a7 a17 a19 a20 a21 => (h2.1 a a1 a2 a3 a4 a5 a6 a7 a17 a19 a20 a21).trans (h1.1 a a1 a2 a3 a4 a5 a6 a7 a17 a19 a20 a21), fun k hk => (h2.2 k hk).trans (h1.2 k hk)⟩
theorem Fr_rf (w : Nat) (M : S32) : Fr w M M := ⟨fun _ _ _ _ _ _ _ _ _ _ _ _ => rfl, fun _ _ => rfl⟩
theorem p10 {n : Nat} (h : n ≤ 8) : 10 ^ n ≤ 100000000 := Nat.pow_le_pow_right (n := 10) (by omega) h
theorem m_partsTo {M : S32} {B : AB} (hB : OKA B) (hM : MT M B) (hD : DM (M 1) (M 2) (B 6 0)) (fu : Nat) (hfu : 1000 ≤ fu) {w i f : Nat} (hw : w = 0 ∨ w = 1 ∨ w = 2) (hi : i < B 6 0) (hf : f ≤ 9) : ∃ N, f_X5_partsTo fu M (nI i) (nI f) (nI w) = some (lN (fb_sm (qto B i f) (2 ^ B 6 0)), N) ∧ MT N B ∧ DM (N 1) (N 2) (B 6 0) ∧ Fr w M N := by
  have hn := hB.1
  have hp2 : 2 ^ B 6 0 ≤ 256 := Nat.pow_le_pow_right (n := 2) (by omega) hn
  have loop : ∀ d t m U, t + d = 2 ^ B 6 0 → 256 < m + t → MT U B → DM (U 1) (U 2) (B 6 0) → Fr w M U → ∃ N, f_X5_partsTo_6 fu m (nI i) (nI f) (nI w) (lN (fb_sm (qto B i f) t)) (nI t) U = some (lN (fb_sm (qto B i f) (2 ^ B 6 0)), N) ∧ MT N B ∧ DM (N 1) (N 2) (B 6 0) ∧ Fr w M N := by
    intro d
    induction d with
    | zero =>
      intro t m U ht hm hU hDU hF
      obtain ⟨m, rfl⟩ : ∃ k, m = k + 1 := ⟨m - 1, by omega⟩
      refine ⟨U, ?_, hU, hDU, hF⟩
      show s_X5_partsTo_6 fu _ _ _ _ _ _ U = _
      unfold s_X5_partsTo_6
      rw [hU.1, bit_one _ (by omega), if_pos (nI_le (by omega) (by omega)), show t = 2 ^ B 6 0 by omega]
    | succ d ih =>
      intro t m U ht hm hU hDU hF
      obtain ⟨m, rfl⟩ : ∃ k, m = k + 1 := ⟨m - 1, by omega⟩
      have er : f_X5_partsTo_6 fu (m + 1) (nI i) (nI f) (nI w) (lN (fb_sm (qto B i f) t)) (nI t) U = s_X5_partsTo_6 fu (f_X5_partsTo_6 fu m) (nI i) (nI f) (nI w) (lN (fb_sm (qto B i f) t)) (nI t) U := rfl
      rw [er]
      unfold s_X5_partsTo_6 f_X5_partsTo_77
      rw [hU.1, bit_one _ (by omega), if_neg (nI_ge (show t < 2 ^ B 6 0 by omega) (by omega))]
      have ih := fun U => ih (t + 1) m U (by omega) (by omega)
      rw [fb_sm_succ] at ih
      rcases m_areAlive hB hU fu (by omega) (nI t) with ⟨s, es, hs, e⟩ | ⟨hno, e⟩
      · have := (nI_eq (by omega) (by have := hs.1; omega)).mp es
        subst this
        rw [e]
        simp only [bd]
        rw [if_neg n10, m_parts hB hU fu hfu hs]
        simp only []
        have hpl := prt_le hB t (B 6 0)
        have hp := p10 hn
        by_cases q0 : prt B t (B 6 0) = 0
        · rw [if_pos ((lg_cmp_eq _ _).mpr ((lN_z (by omega)).mpr q0)), nI_1]
          rw [show qto B i f t = 0 by unfold qto; rw [q0]; split <;> rfl, Nat.add_zero] at ih
          exact ih U hU hDU hF
        · rw [if_neg (fun w => q0 ((lN_z (by omega)).mp ((lg_cmp_eq _ _).mp w)))]
          obtain ⟨N1, N2, v, n1, n2, n3, n4, n5, n6⟩ := m_try hB hU hDU fu hfu hw hs
          obtain ⟨T, t1, t2, t3, t4⟩ := back_w hn hU hDU fu (by omega) hw n5
          have hFT : Fr w M T := by
            refine Fr_tr hF (Fr_tr n6 ⟨fun a a1 a2 a3 a4 a5 a6 a7 a17 a19 a20 a21 => t4 a a1 a2 a3 a4 a5 a6 a7 a19 a20, fun k _ => ?_⟩)
            rw [t4 17 (by decide) (by decide) (by decide) (by decide) (by decide) (by decide) (by decide) (by decide) (by decide)]
          rw [n1]
          simp only []
          rw [n2]
          simp only []
          rw [gd_in (by omega) (by omega), nI_clamp (by omega), (n3.2.2 i hi).1, t1]
          simp only []
          rw [nI_1, lN_add]
          have hfin : (fI (yr B t) i < nI f) ↔ ¬ fin B i f t = true := by
            unfold fI fin
            rw [al_yr]
            by_cases ha : (al B i && !t.testBit i) = true
            · rw [if_pos ha, ha, Bool.true_and, decide_eq_true_eq, show yr B t 2 i = B 2 i + ups B t i from rfl]
              have hal : al B i = true := by
                rw [Bool.and_eq_true] at ha; exact ha.1
              have hul := ups_le hB hs hal
              rw [nI_ltI (by omega) (by omega)]; omega
            · have hfa : (al B i && !t.testBit i) = false := by simpa using ha
              rw [if_neg ha, hfa]
              simp only [Bool.false_and, Bool.false_eq_true, not_false_eq_true, iff_true]
              refine (fa_lt _ _).mpr ?_
              rw [nI_toInt (by omega)]
              have : (-1 : Int32).toInt = -1 := rfl
              omega
          by_cases qf : fin B i f t = true
          · rw [if_neg (fun w => hfin.mp w qf)]
            rw [show qto B i f t = prt B t (B 6 0) by unfold qto; rw [if_pos qf]] at ih
            exact ih T t2 t3 hFT
          · rw [if_pos (hfin.mpr qf)]
            rw [show qto B i f t = 0 by unfold qto; rw [if_neg qf], Nat.add_zero] at ih
            exact ih T t2 t3 hFT
      · rw [e]
        simp only [bd, ↓reduceIte]
        rw [nI_1]
        rw [show qto B i f t = 0 by
          unfold qto
          rw [prt_no hB (show t < 2 ^ B 6 0 by omega) hn (fun w => hno ⟨t, rfl, w⟩)]
          split <;> rfl, Nat.add_zero] at ih
        exact ih U hU hDU hF
  exact loop (2 ^ B 6 0) 0 fu M (by omega) (by omega) hM hD (Fr_rf w M)
def q2 (B : AB) (i f s : Nat) : Nat := prt B s (B 6 0) * fb_sm (qto (yr B s) i f) (2 ^ B 6 0)
theorem m_partsInTwo {M : S32} {B : AB} (hB : OKA B) (hM : MT M B) (hD : DM (M 1) (M 2) (B 6 0)) (fu : Nat) (hfu : 1000 ≤ fu) {i f : Nat} (hi : i < B 6 0) (hf : f ≤ 9) : ∃ N, f_X5_partsInTwo fu M (nI i) (nI f) = some (lN (fb_sm (q2 B i f) (2 ^ B 6 0)), N) ∧ MT N B ∧ DM (N 1) (N 2) (B 6 0) ∧ (∀ a, a ≠ 1 → a ≠ 2 → a ≠ 3 → a ≠ 4 → a ≠ 5 → a ≠ 6 → a ≠ 7 → a ≠ 17 → a ≠ 19 → a ≠ 20 → a ≠ 21 → N a = M a) ∧ ∀ k, k < 43 → N 17 k = M 17 k := by
  have hn := hB.1
  have hp2 : 2 ^ B 6 0 ≤ 256 := Nat.pow_le_pow_right (n := 2) (by omega) hn
  have loop : ∀ d t m U, t + d = 2 ^ B 6 0 → 256 < m + t → MT U B → DM (U 1) (U 2) (B 6 0) → (∀ a, a ≠ 1 → a ≠ 2 → a ≠ 3 → a ≠ 4 → a ≠ 5 → a ≠ 6 → a ≠ 7 → a ≠ 17 → a ≠ 19 → a ≠ 20 → a ≠ 21 → U a = M a) → (∀ k, k < 43 → U 17 k = M 17 k) → ∃ N, f_X5_partsInTwo_5 fu m (nI i) (nI f) (lN (fb_sm (q2 B i f) t)) (nI t) U = some (lN (fb_sm (q2 B i f) (2 ^ B 6 0)), N) ∧ MT N B ∧ DM (N 1) (N 2) (B 6 0) ∧ (∀ a, a ≠ 1 → a ≠ 2 → a ≠ 3 → a ≠ 4 → a ≠ 5 → a ≠ 6 → a ≠ 7 → a ≠ 17 → a ≠ 19 → a ≠ 20 → a ≠ 21 → N a = M a) ∧ ∀ k, k < 43 → N 17 k = M 17 k := by
    intro d
    induction d with
    | zero =>
      intro t m U ht hm hU hDU hF1 hF2
      obtain ⟨m, rfl⟩ : ∃ k, m = k + 1 := ⟨m - 1, by omega⟩
      refine ⟨U, ?_, hU, hDU, hF1, hF2⟩
      show s_X5_partsInTwo_5 fu _ _ _ _ _ U = _
      unfold s_X5_partsInTwo_5
      rw [hU.1, bit_one _ (by omega), if_pos (nI_le (by omega) (by omega)), show t = 2 ^ B 6 0 by omega]
    | succ d ih =>
      intro t m U ht hm hU hDU hF1 hF2
      obtain ⟨m, rfl⟩ : ∃ k, m = k + 1 := ⟨m - 1, by omega⟩
      have er : f_X5_partsInTwo_5 fu (m + 1) (nI i) (nI f) (lN (fb_sm (q2 B i f) t)) (nI t) U = s_X5_partsInTwo_5 fu (f_X5_partsInTwo_5 fu m) (nI i) (nI f) (lN (fb_sm (q2 B i f) t)) (nI t) U := rfl
      rw [er]
      unfold s_X5_partsInTwo_5
      rw [hU.1, bit_one _ (by omega), if_neg (nI_ge (show t < 2 ^ B 6 0 by omega) (by omega))]
      have ih := fun U => ih (t + 1) m U (by omega) (by omega)
      rw [fb_sm_succ] at ih
      rcases m_areAlive hB hU fu (by omega) (nI t) with ⟨s, es, hs, e⟩ | ⟨hno, e⟩
      · have := (nI_eq (by omega) (by have := hs.1; omega)).mp es
        subst this
        rw [e]
        simp only [bd]
        rw [if_neg n10, m_parts hB hU fu hfu hs]
        simp only []
        have hpl := prt_le hB t (B 6 0)
        have hp := p10 hn
        by_cases q0 : prt B t (B 6 0) = 0
        · rw [if_pos ((lg_cmp_eq _ _).mpr ((lN_z (by omega)).mpr q0)), nI_1]
          rw [show q2 B i f t = 0 by unfold q2; rw [q0, Nat.zero_mul], Nat.add_zero] at ih
          exact ih U hU hDU hF1 hF2
        · rw [if_neg (fun w => q0 ((lN_z (by omega)).mp ((lg_cmp_eq _ _).mp w)))]
          obtain ⟨N1, N2, v, n1, n2, n3, n4, n5, n6⟩ := m_try hB hU hDU fu hfu (w := 1) (Or.inr (Or.inl rfl)) hs
          obtain ⟨N3, l1, l2, l3, l4⟩ := m_partsTo (OKA_yr hB hs) n3 n4 fu hfu (w := 2) (i := i) (f := f) (Or.inr (Or.inr rfl)) hi hf
          obtain ⟨T, t1, t2, t3, t4⟩ := back_w hn hU hDU fu (by omega) (w := 1) (M := N3) (Or.inr (Or.inl rfl)) (fun k hk => (l4.2 _ (by omega)).trans (n5 k hk))
          rw [show f_X5_passesAll fu U (1 : Int32) (1 : Int32) = some N1 from n1]
          simp only []
          rw [n2]
          simp only []
          rw [show f_X5_partsTo fu N2 (nI i) (nI f) (2 : Int32) = _ from l1]
          simp only []
          rw [show f_X5_passesAll fu N3 (1 : Int32) (0 : Int32) = some T from t1]
          simp only []
          rw [nI_1, lN_mul, lN_add]
          rw [show q2 B i f t = prt B t (B 6 0) * fb_sm (qto (yr B t) i f) (2 ^ yr B t 6 0) from rfl] at ih
          refine ih T t2 t3 (fun a a1 a2 a3 a4 a5 a6 a7 a17 a19 a20 a21 => ?_) (fun k hk => ?_)
          · rw [t4 a a1 a2 a3 a4 a5 a6 a7 a19 a20, l4.1 a a1 a2 a3 a4 a5 a6 a7 a17 a19 a20 a21, n6.1 a a1 a2 a3 a4 a5 a6 a7 a17 a19 a20 a21]
            exact hF1 a a1 a2 a3 a4 a5 a6 a7 a17 a19 a20 a21
          · rw [t4 17 (by decide) (by decide) (by decide) (by decide) (by decide) (by decide) (by decide) (by decide) (by decide), l4.2 k (by omega), n6.2 k (by omega)]
            exact hF2 k hk
      · rw [e]
        simp only [bd, ↓reduceIte]
        rw [nI_1]
        rw [show q2 B i f t = 0 by
          unfold q2
          rw [prt_no hB (show t < 2 ^ B 6 0 by omega) hn (fun w => hno ⟨t, rfl, w⟩), Nat.zero_mul], Nat.add_zero] at ih
        exact ih U hU hDU hF1 hF2
  exact loop (2 ^ B 6 0) 0 fu M (by omega) (by omega) hM hD (fun _ _ _ _ _ _ _ _ _ _ _ _ => rfl) (fun _ _ => rfl)
theorem qto_sum {B : AB} (hB : OKA B) (i f : Nat) : fb_sm (qto B i f) (2 ^ B 6 0) ≤ 10 ^ B 6 0 := by
  rw [← prt_sum hB]
  refine fb_sm_le (fun s _ => ?_)
  unfold qto
  split
  · exact Nat.le_refl _
  · exact Nat.zero_le _
theorem q2_sum {B : AB} (hB : OKA B) (i f : Nat) : fb_sm (q2 B i f) (2 ^ B 6 0) ≤ 10 ^ B 6 0 * 10 ^ B 6 0 := by
  have h1 : fb_sm (fun s => prt B s (B 6 0) * 10 ^ B 6 0) (2 ^ B 6 0) = 10 ^ B 6 0 * 10 ^ B 6 0 := by rw [sm_mul, prt_sum hB]
  rw [← h1]
  refine fb_sm_le (fun s hs => ?_)
  unfold q2
  by_cases q : inA B s
  · exact Nat.mul_le_mul_left _ (qto_sum (OKA_yr hB q) i f)
  · rw [prt_no hB hs hB.1 q, Nat.zero_mul, Nat.zero_mul]; exact Nat.le_refl _
