/-! loops once more: by a measure -/
theorem itr_one {α σ O : Type} (z : α) (g : α → α) (ev : σ → α → O) (μ : σ → Nat) (P : σ → Prop) (Q : σ → O → Prop) (hs : ∀ s k, P s → (∀ t, P t → μ t < μ s → Q t (ev t k)) → Q s (ev s (g k))) : ∀ m s, P s → μ s < m → Q s (ev s (itr z g m)) := by
  intro m
  induction m with
  | zero => intro s _ h; exact absurd h (Nat.not_lt_zero _)
  | succ m ih =>
    intro s hP h
    rw [itr_s]
    exact hs s _ hP (fun t ht h2 => ih t ht (by omega))
theorem RRef_fr {SV V2 SM M2 : S32} (h : RRef SV SM) (e8 : V2 8 = SV 8) (e0 : M2 0 = SM 0) : RRef V2 M2 := by
  unfold RRef at *
  rw [e8, e0]; exact h
theorem RA_fr7 {SN SM M2 : S32} (h : RA SN SM) (e1 : M2 1 = SM 1) (e2 : M2 2 = SM 2) (e3 : M2 3 = SM 3) (e4 : M2 4 = SM 4) (e5 : M2 5 = SM 5) (e6 : M2 6 = SM 6) (e7 : M2 7 = SM 7) : RA SN M2 := by
  refine RA_fr h (fun a b c => ?_)
  rcases (show a = 1 ∨ a = 2 ∨ a = 3 ∨ a = 4 ∨ a = 5 ∨ a = 6 ∨ a = 7 by omega) with rfl | rfl | rfl | rfl | rfl | rfl | rfl <;> assumption
theorem RIm_frr {SV V2 SK SM M2 : S32} (h : RIm SV SK SM) (e3 : V2 3 = SV 3) (e18 : M2 18 = SM 18) (e17 : M2 17 = SM 17) : RIm V2 SK M2 := RIm_fr h e3 e18 (fun i _ => by rw [e17])
theorem n10 : ¬ (1 : Int32) = 0 := by decide
/-! letter -/
theorem T_letter {SV SN SK SL SM : S32} (h : RR SV SN SK SL SM) (fu : Nat) (x : Int32) : ∃ o1 o2, f_X4_letter fu SV SL x = some o1 ∧ f_X5_letter fu SM x = some o2 ∧ o1.1 = o2.1 ∧ RR o1.2.1 SN SK o1.2.2 o2.2 := by
  obtain ⟨n, hn, l1, l2, hl⟩ := h.2.2.1
  obtain ⟨V4, M4, c4, m4, r4⟩ := ref_k h fu (x := -4) (k := 4) rfl (by omega) (by omega)
  obtain ⟨V6, M6, c6, m6, r6⟩ := ref_k h fu (x := -6) (k := 6) rfl (by omega) (by omega)
  unfold f_X4_letter f_X5_letter f_X4_letter_28 f_X5_letter_25 f_X2_isFull f_X2_add f_X2_add_36
  rcases bound_any fu x 0 255 (by omega) (by omega) with ⟨-, h2, e⟩ | ⟨j, -, hj, rfl, h3, -, h5, e⟩ | ⟨h1, -, h3, e⟩
  · rw [if_neg (show ¬ (0 : Int32) ≤ x from h2), show f_X5_bound fu x (0 : Int32) (255 : Int32) = some (-4) from e, c4]
    simp only [bd]
    rw [if_neg (by decide), if_neg (by decide), m4]
    exact ⟨_, _, rfl, rfl, rfl, r4⟩
  · rw [if_pos (show (0 : Int32) ≤ nI j from h3), if_neg (show ¬ (255 : Int32) < nI j from h5), show f_X5_bound fu (nI j) (0 : Int32) (255 : Int32) = some 0 from e, l1, l2]
    simp only [bd, ↓reduceIte]
    by_cases q : n = 80
    · subst q
      rw [if_neg (show ¬ nI 80 < (80 : Int32) by decide), if_pos (show nI 80 = (80 : Int32) from rfl)]
      simp only []
      rw [if_neg (by decide), if_neg (by decide), c6, m6]
      exact ⟨_, _, rfl, rfl, rfl, r6⟩
    · rw [if_pos (show nI n < (80 : Int32) from (nI_ltI (b := 80) (by omega) (by omega)).mpr (by omega)), if_neg (show ¬ nI n = (80 : Int32) from fun w => q ((nI_eq (b := 80) (by omega) (by omega)).mp w))]
      simp only [↓reduceIte]
      rw [if_neg (nI_nn (by omega)), if_neg (show ¬ (80 : Int32) ≤ nI n from fun w => by have := (nI_leI (a := 80) (by omega) (by omega)).mp w; omega), gd_in (by omega) (by omega), gd_in (by omega) (by omega), nI_clamp (by omega)]
      refine ⟨_, _, rfl, rfl, ?_, RA_fr7 h.1 rfl rfl rfl rfl rfl rfl rfl, RRow_fr h.2.1 rfl rfl rfl rfl, ?_, RRef_fr h.2.2.2.1 rfl rfl, RIm_frr h.2.2.2.2 rfl rfl rfl⟩
      · simp [sa_at, nI_1]
      · refine ⟨n + 1, by omega, nI_1 n, nI_1 n, fun i hi => ?_⟩
        · show ∃ v, v ≤ 255 ∧ upd (SL 0) n (nI j) i = nI v ∧ upd (SM 8) n (nI j) i = nI v
          by_cases hin : i = n
          · subst hin
            exact ⟨j, hj, pk_us, pk_us⟩
          · rw [pk_un hin, pk_un hin]
            exact hl i (by omega)
  · rw [if_pos (show (0 : Int32) ≤ x from h1), if_pos (show (255 : Int32) < x from h3), show f_X5_bound fu x (0 : Int32) (255 : Int32) = some (-6) from e, c6]
    simp only [bd]
    rw [if_neg (by decide), if_neg (by decide), m6]
    exact ⟨_, _, rfl, rfl, rfl, r6⟩
/-! row -/
theorem T_row {SV SN SK SL SM : S32} (h : RR SV SN SK SL SM) (fu : Nat) (x : Int32) : ∃ o1 o2, f_X4_row fu SV x = some o1 ∧ f_X5_row fu SM x = some o2 ∧ o1.1 = o2.1 ∧ RR o1.2 SN SK SL o2.2 := by
  obtain ⟨n, hn, l1, l2, hl⟩ := h.2.1
  obtain ⟨V4, M4, c4, m4, r4⟩ := ref_k h fu (x := -4) (k := 4) rfl (by omega) (by omega)
  obtain ⟨V6, M6, c6, m6, r6⟩ := ref_k h fu (x := -6) (k := 6) rfl (by omega) (by omega)
  unfold f_X4_row f_X5_row f_X4_row_26 f_X5_row_24
  rcases bound_any fu x 0 10 (by omega) (by omega) with ⟨-, h2, e⟩ | ⟨j, -, hj, rfl, h3, -, h5, e⟩ | ⟨h1, -, h3, e⟩
  · rw [if_neg (show ¬ (0 : Int32) ≤ x from h2), show f_X5_bound fu x (0 : Int32) (10 : Int32) = some (-4) from e, c4]
    simp only [bd]
    rw [if_neg (by decide), if_neg (by decide), m4]
    exact ⟨_, _, rfl, rfl, rfl, r4⟩
  · rw [if_pos (show (0 : Int32) ≤ nI j from h3), if_neg (show ¬ (10 : Int32) < nI j from h5), show f_X5_bound fu (nI j) (0 : Int32) (10 : Int32) = some 0 from e, l1, l2]
    simp only [bd, ↓reduceIte]
    by_cases q : n = 8
    · subst q
      rw [if_neg (show ¬ nI 8 < (8 : Int32) by decide), if_pos (show nI 8 = (8 : Int32) from rfl), if_neg (by decide), c6, m6]
      exact ⟨_, _, rfl, rfl, rfl, r6⟩
    · rw [if_pos (show nI n < (8 : Int32) from (nI_ltI (b := 8) (by omega) (by omega)).mpr (by omega)), if_neg (show ¬ nI n = (8 : Int32) from fun w => q ((nI_eq (b := 8) (by omega) (by omega)).mp w))]
      rw [gd_in (by omega) (by omega), gd_in (by omega) (by omega), nI_clamp (by omega)]
      refine ⟨_, _, rfl, rfl, rfl, RA_fr7 h.1 rfl rfl rfl rfl rfl rfl rfl, ?_, RLet_fr h.2.2.1 rfl rfl, RRef_fr h.2.2.2.1 rfl rfl, RIm_frr h.2.2.2.2 rfl rfl rfl⟩
      · refine ⟨n + 1, by omega, nI_1 n, nI_1 n, fun i hi => ?_⟩
        · show ∃ v, v ≤ 10 ∧ upd (SV 6) n (nI j) i = nI v ∧ upd (SM 22) n (nI j) i = nI v
          by_cases hin : i = n
          · subst hin
            exact ⟨j, hj, pk_us, pk_us⟩
          · rw [pk_un hin, pk_un hin]
            exact hl i (by omega)
  · rw [if_pos (show (0 : Int32) ≤ x from h1), if_pos (show (10 : Int32) < x from h3), show f_X5_bound fu x (0 : Int32) (10 : Int32) = some (-6) from e, c6]
    simp only [bd]
    rw [if_neg (by decide), if_neg (by decide), m6]
    exact ⟨_, _, rfl, rfl, rfl, r6⟩
/-! on -/
theorem T_on {SV SN SK SL SM : S32} (h : RR SV SN SK SL SM) (fu : Nat) (hfu : 1000 ≤ fu) (x : Int32) : ∃ o1 o2, f_X4_on fu SV SN x = some o1 ∧ f_X5_on fu SM x = some o2 ∧ o1.1 = o2.1 ∧ RR o1.2 SN SK SL o2.2 := by
  obtain ⟨A, hA, h99, hC, hM, hD⟩ := h.1
  obtain ⟨V1, M1, c1, m1, r1⟩ := ref_k h fu (x := -1) (k := 1) rfl (by omega) (by omega)
  unfold f_X4_on f_X5_on
  rcases floor_any fu x with ⟨f, hf, rfl, e1, e2⟩ | ⟨e1, e2, -⟩
  · rw [e1, e2]
    simp only [bd]
    rw [if_neg n10, if_neg n10, c_who hA hC fu (by omega) hf, m_who hA hM fu (by omega) hf]
    have hw := wh_le A f
    by_cases q : wh A f < 8
    · simp only [if_pos q]
      rw [if_pos (nI_p (by omega))]
      exact ⟨_, _, rfl, rfl, rfl, h⟩
    · simp only [if_neg q]
      rw [if_neg (by decide)]
      exact ⟨_, _, rfl, rfl, rfl, h⟩
  · rw [e1, e2]
    simp only [bd, ↓reduceIte]
    rw [c1, m1]
    exact ⟨_, _, rfl, rfl, rfl, r1⟩
/-! lodger -/
theorem c_wish {T : S32} {A : AB} (hA : OKA A) (hC : CT T A) (fu : Nat) {i : Nat} (h : al A i = true) : f_X3_wishTold fu T (nI i) = some (wR (A 4 i)) := by
  have hi := al_lt8 hA h
  obtain ⟨e1, e2, e3, e4⟩ := (hC.2.2 i (al_lt h)).2 h
  unfold f_X3_wishTold
  rw [gd_in hi (by omega), gd_in hi (by omega), nI_clamp (by omega), e4]
  unfold wC wR
  by_cases q : A 4 i < 10
  · rw [if_pos q, if_neg (nI_m1 (by omega)), if_pos q]
  · rw [if_neg q, if_pos rfl, if_neg q]
theorem T_lodger {SV SN SK SL SM : S32} (h : RR SV SN SK SL SM) (fu : Nat) (hfu : 1000 ≤ fu) (x y : Int32) : ∃ o1 o2, f_X4_lodger fu SV SN x y = some o1 ∧ f_X5_lodger fu SM x y = some o2 ∧ o1.1 = o2.1 ∧ RR o1.2 SN SK SL o2.2 := by
  obtain ⟨A, hA, h99, hC, hM, hD⟩ := h.1
  obtain ⟨V1, M1, c1, m1, r1⟩ := ref_k h fu (x := -1) (k := 1) rfl (by omega) (by omega)
  obtain ⟨V2, M2, c2, m2, r2⟩ := ref_k h fu (x := -2) (k := 2) rfl (by omega) (by omega)
  unfold f_X4_lodger f_X5_lodger
  rcases alive_any hA hC hM fu x with ⟨i, hi, rfl, ha, e1, e2⟩ | ⟨e1, e2⟩
  · obtain ⟨b0, b1, b2, b3, b4⟩ := hA.2.1 i ha
    obtain ⟨a1, a2, a3, a4⟩ := (hC.2.2 i (al_lt ha)).2 ha
    obtain ⟨p1, p2, p3, p4⟩ := (hM.2.2 i (al_lt ha)).2 ha
    have f1 := (hC.2.2 i (al_lt ha)).1
    have f2 := (hM.2.2 i (al_lt ha)).1
    have w1 := c_ch hA hC fu ha (show 0 ≤ 99 by omega)
    have w2 := c_cl hA hC fu ha (show 0 ≤ 99 by omega)
    rw [show min 99 (A 1 i + 0) = A 1 i by omega] at w1 w2
    rw [e1, e2]
    simp only [bd]
    rw [if_neg n10, if_neg n10]
    simp only [gd_in hi (show 8 < 2 ^ 31 by omega), nI_clamp (show i < 2 ^ 31 by omega), a1, a2, a3, p1, p2, p3, p4, f1, f2]
    by_cases q0 : y = 0
    · rw [if_pos q0, if_pos q0]; exact ⟨_, _, rfl, rfl, rfl, h⟩
    rw [if_neg q0, if_neg q0]
    by_cases q1 : y = 1
    · rw [if_pos q1, if_pos q1]; exact ⟨_, _, rfl, rfl, rfl, h⟩
    rw [if_neg q1, if_neg q1]
    by_cases q2 : y = 2
    · rw [if_pos q2, if_pos q2]; exact ⟨_, _, rfl, rfl, rfl, h⟩
    rw [if_neg q2, if_neg q2]
    by_cases q3 : y = 3
    · rw [if_pos q3, if_pos q3]; exact ⟨_, _, rfl, rfl, rfl, h⟩
    rw [if_neg q3, if_neg q3]
    by_cases q4 : y = 4
    · rw [if_pos q4, if_pos q4, show f_X3_chanceAfter fu SN (nI i) (0 : Int32) = _ from w1, m_ch hA hM fu ha]; exact ⟨_, _, rfl, rfl, rfl, h⟩
    rw [if_neg q4, if_neg q4]
    by_cases q5 : y = 5
    · rw [if_pos q5, if_pos q5, show f_X3_climbAfter fu SN (nI i) (0 : Int32) = _ from w2, m_cl fu b0 b1]; exact ⟨_, _, rfl, rfl, rfl, h⟩
    rw [if_neg q5, if_neg q5]
    by_cases q6 : y = 6
    · rw [if_pos q6, if_pos q6, c_wish hA hC fu ha]; exact ⟨_, _, rfl, rfl, rfl, h⟩
    rw [if_neg q6, if_neg q6, c2, m2]
    exact ⟨_, _, rfl, rfl, rfl, r2⟩
  · rw [e1, e2]
    simp only [bd, ↓reduceIte]
    rw [c1, m1]
    exact ⟨_, _, rfl, rfl, rfl, r1⟩
