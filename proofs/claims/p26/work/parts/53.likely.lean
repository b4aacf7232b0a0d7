/-! likely -/
theorem m_div (fu : Nat) : ∀ m a b, b < m → a < 2 ^ 63 → b < 2 ^ 63 → f_X5_divisor_6 fu m (lN a) (lN b) = some (lN (Nat.gcd a b)) := by
  intro m
  induction m with
  | zero => intro a b h; exact absurd h (by omega)
  | succ m ih =>
    intro a b h ha hb
    show s_X5_divisor_6 fu (f_X5_divisor_6 fu m) _ _ = _
    unfold s_X5_divisor_6
    by_cases q : b = 0
    · subst q
      rw [if_pos ((lg_cmp_eq (lN 0) 0).mpr rfl), Nat.gcd_zero_right]
    · have hz : ¬ lN b = (0 : Int64) := fun w => q ((lN_z hb).mp w)
      have hlt : a % b < b := Nat.mod_lt _ (by omega)
      rw [if_neg (fun w => hz ((lg_cmp_eq _ _).mp w))]
      unfold zl
      rw [if_neg hz, pk_lRem ha (by omega) hb, ih b (a % b) (by omega) hb (by omega)]
      rw [Nat.gcd_comm b (a % b), ← Nat.gcd_rec, Nat.gcd_comm]
def VV (A : AB) (i f n : Nat) : Nat := if n = 1 then fb_sm (qto A i f) (2 ^ A 6 0) else fb_sm (q2 A i f) (2 ^ A 6 0)
def DD (A : AB) (n : Nat) : Nat := 10 ^ (n * A 6 0)
theorem DD_b {A : AB} (hA : OKA A) {n : Nat} (hn : n = 1 ∨ n = 2) : 0 < DD A n ∧ DD A n ≤ 10000000000000000 := by
  have h8 := hA.1
  refine ⟨Nat.pow_pos (by omega), ?_⟩
  show 10 ^ (n * A 6 0) ≤ 10 ^ 16
  refine Nat.pow_le_pow_right (by omega) ?_
  rcases hn with rfl | rfl <;> omega
theorem VV_b {A : AB} (hA : OKA A) (i f : Nat) {n : Nat} (hn : n = 1 ∨ n = 2) : VV A i f n ≤ DD A n := by
  unfold VV DD
  rcases hn with rfl | rfl
  · rw [if_pos rfl, Nat.one_mul]; exact qto_sum hA i f
  · rw [if_neg (by decide), show 2 * A 6 0 = A 6 0 + A 6 0 by omega, Nat.pow_add]; exact q2_sum hA i f
theorem L_ref {SM : S32} {A : AB} (hA : OKA A) (hM : MT SM A) (hD : DM (SM 1) (SM 2) (A 6 0)) (fu : Nat) (hfu : 2 ^ 64 ≤ fu) {i f n : Nat} (hi : al A i = true) (hf : f ≤ 9) (hn : n = 1 ∨ n = 2) (z : Int32) : ∃ N, f_X5_likely_66 fu fu (nI i) (nI f) (nI n) z (1 : Int64) (0 : Int32) SM = some (if z = 0 then lN (VV A i f n / Nat.gcd (VV A i f n) (DD A n)) else lN (DD A n / Nat.gcd (VV A i f n) (DD A n)), N) ∧ MT N A ∧ DM (N 1) (N 2) (A 6 0) ∧ (∀ a, a ≠ 1 → a ≠ 2 → a ≠ 3 → a ≠ 4 → a ≠ 5 → a ≠ 6 → a ≠ 7 → a ≠ 17 → a ≠ 19 → a ≠ 20 → a ≠ 21 → N a = SM a) ∧ ∀ k, k < 43 → N 17 k = SM 17 k := by
  have h8 := hA.1
  have hin := al_lt hi
  obtain ⟨d1, d2⟩ := DD_b hA hn
  have v1 := VV_b hA i f hn
  have g1 : 0 < Nat.gcd (VV A i f n) (DD A n) := Nat.gcd_pos_of_pos_right _ d1
  have g2 : Nat.gcd (VV A i f n) (DD A n) ≤ DD A n := Nat.le_of_dvd d1 (Nat.gcd_dvd_right _ _)
  have e126 : ∀ (N : S32) (y : Nat), y < 2 ^ 63 → f_X5_likely_126 fu (lN (DD A n)) (lN (VV A i f n)) (lN y) N = some (lN (y / Nat.gcd (VV A i f n) (DD A n)), N) := by
    intro N y hy
    unfold f_X5_likely_126 f_X5_divisor
    rw [m_div fu fu _ _ (by omega) (by omega) (by omega)]
    simp only [bd]
    unfold zl
    rw [if_neg (fun w => by have := (lN_z (by omega)).mp w; omega), pk_lDiv hy g1 (by omega)]
  have e112 : ∀ N : S32, f_X5_likely_112 fu z (lN (DD A n)) (lN (VV A i f n)) N = some (if z = 0 then lN (VV A i f n / Nat.gcd (VV A i f n) (DD A n)) else lN (DD A n / Nat.gcd (VV A i f n) (DD A n)), N) := by
    intro N
    unfold f_X5_likely_112
    by_cases q : z = 0
    · rw [if_pos q, if_pos q]; exact e126 N _ (by omega)
    · rw [if_neg q, if_neg q]; exact e126 N _ (by omega)
  have e91 : ∃ N, f_X5_likely_91 fu (nI i) (nI f) (nI n) z (lN (DD A n)) SM = some (if z = 0 then lN (VV A i f n / Nat.gcd (VV A i f n) (DD A n)) else lN (DD A n / Nat.gcd (VV A i f n) (DD A n)), N) ∧ MT N A ∧ DM (N 1) (N 2) (A 6 0) ∧ (∀ a, a ≠ 1 → a ≠ 2 → a ≠ 3 → a ≠ 4 → a ≠ 5 → a ≠ 6 → a ≠ 7 → a ≠ 17 → a ≠ 19 → a ≠ 20 → a ≠ 21 → N a = SM a) ∧ ∀ k, k < 43 → N 17 k = SM 17 k := by
    unfold f_X5_likely_91
    by_cases q : n = 1
    · obtain ⟨N, l1, l2, l3, l4⟩ := m_partsTo hA hM hD fu (by omega) (w := 1) (i := i) (f := f) (Or.inr (Or.inl rfl)) hin hf
      rw [if_pos (show nI n = (1 : Int32) by rw [q]; rfl), show f_X5_partsTo fu SM (nI i) (nI f) (1 : Int32) = _ from l1]
      simp only [bd]
      rw [show fb_sm (qto A i f) (2 ^ A 6 0) = VV A i f n by unfold VV; rw [if_pos q], e112 N]
      exact ⟨N, rfl, l2, l3, l4.1, fun k hk => l4.2 k (by omega)⟩
    · obtain ⟨N, l1, l2, l3, l4, l5⟩ := m_partsInTwo hA hM hD fu (by omega) (i := i) (f := f) hin hf
      rw [if_neg (show ¬ nI n = (1 : Int32) by rw [show n = 2 by omega]; decide), l1]
      simp only [bd]
      rw [show fb_sm (q2 A i f) (2 ^ A 6 0) = VV A i f n by unfold VV; rw [if_neg q], e112 N]
      exact ⟨N, rfl, l2, l3, l4, l5⟩
  obtain ⟨N, n1, n2⟩ := e91
  refine ⟨N, ?_, n2⟩
  rw [show (1 : Int64) = lN (10 ^ 0) from rfl]
  refine itr_for (fun _ _ _ _ _ _ _ => none) (fun k => s_X5_likely_66 fu k) (fun t k => k (nI i) (nI f) (nI n) z (lN (10 ^ t)) (nI t) SM) (fun _ => some (if z = 0 then lN (VV A i f n / Nat.gcd (VV A i f n) (DD A n)) else lN (DD A n / Nat.gcd (VV A i f n) (DD A n)), N)) (n * A 6 0) (fun _ => True) (fun k _ => ?_) (fun k t ht _ hk => ?_) fu 0 (by omega) ?_ trivial
  · show s_X5_likely_66 fu k _ _ _ _ _ _ SM = _
    unfold s_X5_likely_66
    have hb : n * A 6 0 ≤ 16 := by rcases hn with rfl | rfl <;> omega
    rw [hM.1, pk_mul, if_pos (nI_le (Nat.le_refl _) (by omega))]
    exact n1
  · show s_X5_likely_66 fu k _ _ _ _ _ _ SM = _
    unfold s_X5_likely_66
    have hb : n * A 6 0 ≤ 16 := by rcases hn with rfl | rfl <;> omega
    rw [hM.1, pk_mul, if_neg (nI_ge ht (by omega)), show (10 : Int64) = lN 10 from rfl, lN_mul, nI_1, ← Nat.pow_succ]
    exact hk trivial
  · have hb : n * A 6 0 ≤ 16 := by rcases hn with rfl | rfl <;> omega
    omega
/-- what shortening must give -/
def LEQ (fu : Nat) : Prop := ∀ (A : AB) (i f n : Nat), OKA A → al A i = true → f ≤ 9 → (n = 1 ∨ n = 2) → ∀ S S2 : S64, S 1 0 = lN (upA A i f n) → S 2 0 = lN (upB A i n) → f_X1_shorten fu S = some S2 → S2 1 0 = lN (VV A i f n / Nat.gcd (VV A i f n) (DD A n)) ∧ S2 2 0 = lN (DD A n / Nat.gcd (VV A i f n) (DD A n))
theorem T_likely0 {SV SN SK SL SM : S32} {SO : S64} (h : RR SV SN SK SL SM) (fu : Nat) (hfu : 2 ^ 64 ≤ fu) (x y u z : Int32) : ∃ o1 o2, f_X4_likely fu SV SN SO x y u z = some o1 ∧ f_X5_likely fu SM x y u z = some o2 ∧ (LEQ fu → o1.1 = o2.1) ∧ RR o1.2.1 SN SK SL o2.2 := by
  obtain ⟨A, hA, h99, hC, hM, hD⟩ := h.1
  obtain ⟨x1, V1, M1, c1, m1, r1⟩ := refL_k h fu (x := -1) (k := 1) rfl (by omega) (by omega)
  obtain ⟨x2, V2, M2, c2, m2, r2⟩ := refL_k h fu (x := -2) (k := 2) rfl (by omega) (by omega)
  obtain ⟨x4, V4, M4, c4, m4, r4⟩ := refL_k h fu (x := -4) (k := 4) rfl (by omega) (by omega)
  obtain ⟨x6, V6, M6, c6, m6, r6⟩ := refL_k h fu (x := -6) (k := 6) rfl (by omega) (by omega)
  unfold f_X4_likely f_X5_likely f_X4_likely_18 f_X5_likely_15 f_X5_likely_48
  rw [c1, c2, c4, c6, m1]
  rcases alive_any hA hC hM fu x with ⟨i, hi, rfl, ha, e1, e2⟩ | ⟨e1, e2⟩
  · rw [e1, e2]
    simp only [bd]
    rw [if_neg n10, if_neg n10]
    rcases floor_any fu y with ⟨f, hf, rfl, e3, e4⟩ | ⟨e3, e4, -⟩
    · rw [e3, e4]
      simp only []
      rw [if_neg n10, if_neg n10]
      rcases bound_any fu u 1 2 (by omega) (by omega) with ⟨-, h2, e⟩ | ⟨n, hn1, hn2, rfl, h3, h5, -, e⟩ | ⟨h1, h2, -, e⟩
      · rw [if_neg (show ¬ (1 : Int32) ≤ u from h2), show f_X5_bound fu u (1 : Int32) (2 : Int32) = some (-4) from e]
        simp only []
        rw [if_neg (by decide), if_neg (by decide), m4]
        exact ⟨_, _, rfl, rfl, fun _ => rfl, r4⟩
      · rw [if_pos (show (1 : Int32) ≤ nI n from h3), if_pos (show nI n ≤ (2 : Int32) from h5), show f_X5_bound fu (nI n) (1 : Int32) (2 : Int32) = some 0 from e]
        simp only [↓reduceIte]
        have key : (z = 0 ∨ z = 1) → ∃ o1 o2, f_X4_likely_66 fu SN (nI i) (nI f) (nI n) z SV SO = some o1 ∧ f_X5_likely_66 fu fu (nI i) (nI f) (nI n) z (1 : Int64) (0 : Int32) SM = some o2 ∧ (LEQ fu → o1.1 = o2.1) ∧ RR o1.2.1 SN SK SL o2.2 := by
          intro hz
          obtain ⟨S, s1, s2, s3⟩ := c_reckon hA hC fu (by omega) SO (n := n) ha hf (by omega)
          obtain ⟨S2, t1⟩ := c_short_any fu (by omega) S
          obtain ⟨N, n1, n2, n3, n4, n5⟩ := L_ref hA hM hD fu hfu (n := n) ha hf (by omega) z
          have rr : RR SV SN SK SL N := ⟨⟨A, hA, h99, hC, n2, n3⟩, RRow_fr h.2.1 rfl rfl (n4 22 (by decide) (by decide) (by decide) (by decide) (by decide) (by decide) (by decide) (by decide) (by decide) (by decide) (by decide)) (n4 23 (by decide) (by decide) (by decide) (by decide) (by decide) (by decide) (by decide) (by decide) (by decide) (by decide) (by decide)), RLet_fr h.2.2.1 (n4 8 (by decide) (by decide) (by decide) (by decide) (by decide) (by decide) (by decide) (by decide) (by decide) (by decide) (by decide)) (n4 14 (by decide) (by decide) (by decide) (by decide) (by decide) (by decide) (by decide) (by decide) (by decide) (by decide) (by decide)), RRef_fr h.2.2.2.1 rfl (n4 0 (by decide) (by decide) (by decide) (by decide) (by decide) (by decide) (by decide) (by decide) (by decide) (by decide) (by decide)), RIm_fr h.2.2.2.2 rfl (n4 18 (by decide) (by decide) (by decide) (by decide) (by decide) (by decide) (by decide) (by decide) (by decide) (by decide) (by decide)) (fun k hk => n5 k (by omega))⟩
          unfold f_X4_likely_66
          rw [s1, t1, n1]
          simp only [bd]
          by_cases q : z = 0
          · rw [if_pos q, if_pos q]
            exact ⟨_, _, rfl, rfl, fun leq => (leq A i f n hA ha hf (by omega) S S2 s2 s3 t1).1, rr⟩
          · rw [if_neg q, if_neg q]
            exact ⟨_, _, rfl, rfl, fun leq => (leq A i f n hA ha hf (by omega) S S2 s2 s3 t1).2, rr⟩
        rcases in01 fu z with ⟨rfl, e⟩ | ⟨rfl, e⟩ | ⟨q0, q1, e⟩
        · rw [e, if_pos rfl]
          exact key (Or.inl rfl)
        · rw [e, if_neg n10, if_pos rfl]
          exact key (Or.inr rfl)
        · rw [e, if_neg q0, if_neg q1, m2]
          exact ⟨_, _, rfl, rfl, fun _ => rfl, r2⟩
      · rw [if_pos (show (1 : Int32) ≤ u from h1), if_neg (show ¬ u ≤ (2 : Int32) from h2), show f_X5_bound fu u (1 : Int32) (2 : Int32) = some (-6) from e]
        simp only []
        rw [if_neg (by decide), if_neg (by decide), m6]
        exact ⟨_, _, rfl, rfl, fun _ => rfl, r6⟩
    · rw [e3, e4]
      exact ⟨_, _, rfl, rfl, fun _ => rfl, r1⟩
  · rw [e1, e2]
    exact ⟨_, _, rfl, rfl, fun _ => rfl, r1⟩
