/-! ages: both return (their answers are not asked here) -/
theorem T_ages {SV SN SK SL SM : S32} (h : RR SV SN SK SL SM) (fu : Nat) (hfu : 1000 ≤ fu) (x y : Int32) : ∃ o1 o2, f_X4_ages fu SV SN x y = some o1 ∧ f_X5_ages fu SM x y = some o2 ∧ RR o1.2 SN SK SL o2.2 := by
  obtain ⟨A, hA, h99, hC, hM, hD⟩ := h.1
  have hn := hA.1
  obtain ⟨V2, M2, c2, m2, r2⟩ := ref_k h fu (x := -2) (k := 2) rfl (by omega) (by omega)
  unfold f_X4_ages f_X5_ages f_X4_ages_16 f_X5_ages_18
  rw [c2, m2]
  rcases kind_any fu x with ⟨k, hk, rfl, e1, e2⟩ | ⟨e1, e2⟩
  · have k1 : ∀ y : Int32, ∃ v, f_X4_ages_23 fu SN (nI k) y SV = some (v, SV) := by
      intro y
      have go : ∀ m a x3 x4, a ≤ 100 → 100 < m + a → ∃ v, f_X4_ages_32 fu SN m (nI k) y x3 x4 (nI a) SV = some (v, SV) := by
        intro m
        induction m with
        | zero => intro a x3 x4 h1 h2; exact absurd h2 (by omega)
        | succ m ih =>
          intro a x3 x4 h1 h2
          show ∃ v, s_X4_ages_32 fu (f_X4_ages_32 fu SN m) SN _ _ _ _ _ _ = some (v, SV)
          unfold s_X4_ages_32 f_X4_ages_72
          by_cases q : a = 100
          · rw [if_pos (show (99 : Int32) < nI a by rw [q]; decide)]
            by_cases q2 : y = 0
            · rw [if_pos q2]; exact ⟨_, rfl⟩
            · rw [if_neg q2]; exact ⟨_, rfl⟩
          · rw [if_neg (show ¬ (99 : Int32) < nI a from fun w => by have := (nI_ltI (a := 99) (by omega) (by omega)).mp w; omega), c_could hA hC fu (by omega) hk (by omega)]
            simp only [bd]
            rw [nI_1]
            by_cases q3 : A 6 0 < 8 ∧ wh A (ef k a) = 8
            · rw [if_pos q3, if_neg n10]
              by_cases q4 : x3 = 0
              · rw [if_pos q4]; exact ih _ _ _ (by omega) (by omega)
              · rw [if_neg q4]; exact ih _ _ _ (by omega) (by omega)
            · rw [if_neg q3, if_pos rfl]; exact ih _ _ _ (by omega) (by omega)
      exact go fu 0 _ _ (by omega) (by omega)
    have k2 : ∀ y : Int32, ∃ v, f_X5_ages_34 fu fu (nI k) y (0 : Int32) (-9 : Int32) (0 : Int32) SM = some (v, SM) := by
      intro y
      have go : ∀ m a x3 x4, a ≤ 100 → 100 < m + a → ∃ v, f_X5_ages_34 fu m (nI k) y x3 x4 (nI a) SM = some (v, SM) := by
        intro m
        induction m with
        | zero => intro a x3 x4 h1 h2; exact absurd h2 (by omega)
        | succ m ih =>
          intro a x3 x4 h1 h2
          show ∃ v, s_X5_ages_34 fu (f_X5_ages_34 fu m) _ _ _ _ _ _ = some (v, SM)
          unfold s_X5_ages_34 f_X5_ages_79
          by_cases q : a = 100
          · rw [if_pos (show (99 : Int32) < nI a by rw [q]; decide)]
            by_cases q2 : y = 0
            · rw [if_pos q2]; exact ⟨_, rfl⟩
            · rw [if_neg q2]; exact ⟨_, rfl⟩
          · rw [if_neg (show ¬ (99 : Int32) < nI a from fun w => by have := (nI_ltI (a := 99) (by omega) (by omega)).mp w; omega), m_ef fu hk (by omega)]
            simp only [bd]
            rw [m_who hA hM fu (by omega) (ef_le k (by omega) a (by omega))]
            simp only []
            rw [nI_1]
            generalize (if wh A (ef k a) < 8 then nI (wh A (ef k a)) else -9) = o
            by_cases q3 : o < 0
            · rw [if_pos q3]
              by_cases q4 : x3 = 0
              · rw [if_pos q4]; exact ih _ _ _ (by omega) (by omega)
              · rw [if_neg q4]; exact ih _ _ _ (by omega) (by omega)
            · rw [if_neg q3]; exact ih _ _ _ (by omega) (by omega)
      exact go fu 0 _ _ (by omega) (by omega)
    obtain ⟨v1, g1⟩ := k1 y
    obtain ⟨v2, g2⟩ := k2 y
    rw [e1, e2]
    simp only [bd]
    rw [if_neg n10, if_neg n10]
    rcases in01 fu y with ⟨rfl, e⟩ | ⟨rfl, e⟩ | ⟨q0, q1, e⟩
    · rw [e, if_pos rfl, g1]
      simp only []
      rw [if_neg n10, g2]
      exact ⟨_, _, rfl, rfl, h⟩
    · rw [e, if_neg n10, if_pos rfl, g1]
      simp only []
      rw [if_neg n10, g2]
      exact ⟨_, _, rfl, rfl, h⟩
    · rw [e, if_neg q0, if_neg q1]
      exact ⟨_, _, rfl, rfl, r2⟩
  · rw [e1, e2]
    exact ⟨_, _, rfl, rfl, r2⟩
