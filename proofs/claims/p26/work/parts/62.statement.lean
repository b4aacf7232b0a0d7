theorem m_st {fu : Nat} (hfu : 100 ≤ fu) {M : S32} {T : Nat → Nat} {n p k : Nat} (hT : TX T n) (hX : MX M T n p) (hp : p < 600) (hk : k < 40) (h16 : M 16 0 = nI k) : ∃ N, f_X5_statement fu M = some (if gs T p = true then 1 else 0, N) ∧ N 15 0 = nI (if gs T p = true then fe T p + 1 else fe T p) ∧ FS M N ∧ (gs T p = true → FK k M N ∧ SD T p k N) := by
  have hv := TX_le hT
  unfold f_X5_statement
  rw [m_next hT hX fu (by omega)]
  simp only [bd]
  have hc1 : chI (T p) = 108 ↔ T p = 108 := ch_eq (c := 108) (hv p) (by omega)
  have hc2 : chI (T p) = 119 ↔ T p = 119 := ch_eq (c := 119) (hv p) (by omega)
  have hc3 : chI (T p) = 121 ↔ T p = 121 := ch_eq (c := 121) (hv p) (by omega)
  unfold f_X5_statement_25 f_X5_statement_109
  rw [h16, gd_in hk (by omega), gd_in hk (by omega), nI_clamp (by omega), hX.2.2, nI_1, show (3 : Int32) * nI k = nI (3 * k) from pk_mul 3 k]
  generalize hM1 : sa (sa (sa M 9 (upd (M 9) k (chI (T p)))) 10 (upd (M 10) k (nI p))) 15 (fun _ => nI (p + 1)) = M1
  have x1 : MX M1 T n (p + 1) := by rw [← hM1]; exact ⟨hX.1, hX.2.1, rfl⟩
  have k9 : M1 9 = upd (M 9) k (chI (T p)) := by rw [← hM1]; rfl
  have k10 : M1 10 = upd (M 10) k (nI p) := by rw [← hM1]; rfl
  have ko : ∀ a, a ≠ 9 → a ≠ 10 → a ≠ 15 → M1 a = M a := fun a h9 h10 h15 => by rw [← hM1, sa_ne h15, sa_ne h10, sa_ne h9]
  by_cases h1 : T p = 108
  · rw [if_pos (hc1.mpr h1), if_pos (hc1.mpr h1)]
    have e9 : chI (T p) = nI (T p) := by rw [h1]; rfl
    obtain ⟨N, r1, r2, r3⟩ := m_rl (fu := fu) (by omega) hT x1 (by omega) (x := 3 * k) (by omega)
    have fs : FS M N := fun a a9 a10 a11 a12 a13 a15 => (r2 a a11 a15).trans (ko a a9 a10 a15)
    have fk : (∀ i, i ≠ k → N 9 i = M 9 i ∧ N 10 i = M 10 i ∧ N 12 i = M 12 i ∧ N 13 i = M 13 i) ∧ ∀ i, i < 3 * k → N 11 i = M 11 i := by
      refine ⟨fun i hi => ⟨?_, ?_, ?_, ?_⟩, fun i hi => ?_⟩
      · rw [r2 9 (by decide) (by decide), k9]; exact pk_un hi
      · rw [r2 10 (by decide) (by decide), k10]; exact pk_un hi
      · rw [r2 12 (by decide) (by decide), ko 12 (by decide) (by decide) (by decide)]
      · rw [r2 13 (by decide) (by decide), ko 13 (by decide) (by decide) (by decide)]
      · rw [r1 i hi, ko 11 (by decide) (by decide) (by decide)]
    have n9 : N 9 k = nI (T p) := by rw [r2 9 (by decide) (by decide), k9, ← e9]; exact pk_us
    have n10' : N 10 k = nI p := by rw [r2 10 (by decide) (by decide), k10]; exact pk_us
    unfold gs fe
    rw [if_pos h1, if_pos h1]
    rcases r3 with ⟨q1, q2, q3, q4, q5, q6, q7, q8, q9⟩ | ⟨q1, q2, q3⟩
    · rw [q5]
      simp only [bd]
      have hN : MX N T n (cm T p + 2) := MX_fr x1 (r2 14 (by decide) (by decide)) (r2 8 (by decide) (by decide)) q6
      have hcb : cm T p ≤ p + 4 := by unfold cm; split <;> omega
      rw [st_tail hT hN (by omega)]
      by_cases h5 : T (cm T p + 2) = 59
      · have hg : (decide (kd (T (p + 1)) < 6) && dg (T (p + 2)) && decide (T (cm T p) = 44) && dg (T (cm T p + 1)) && decide (T (cm T p + 2) = 59)) = true := by simp [q1, q2, q3, q4, h5]
        rw [hg, if_pos h5, if_pos h5, if_pos rfl, if_pos rfl, if_pos q1, if_pos q2, if_pos q3, if_pos q4]
        refine ⟨_, rfl, rfl, fun a a9 a10 a11 a12 a13 a15 => (sa_ne a15).trans (fs a a9 a10 a11 a12 a13 a15), fun _ => ⟨fk, n9, n10', fun _ => ⟨q7, q8, q9⟩, fun w => ?_, fun w => ?_⟩⟩
        · rw [h1] at w; exact absurd w (by decide)
        · rw [h1] at w; exact absurd w (by decide)
      · have hg : (decide (kd (T (p + 1)) < 6) && dg (T (p + 2)) && decide (T (cm T p) = 44) && dg (T (cm T p + 1)) && decide (T (cm T p + 2) = 59)) = false := by simp [h5]
        rw [hg, if_neg h5, if_neg h5, if_neg (by decide), if_neg (by decide), if_pos q1, if_pos q2, if_pos q3, if_pos q4]
        exact ⟨_, rfl, q6, fs, fun w => absurd w (by decide)⟩
    · have hg : (decide (kd (T (p + 1)) < 6) && dg (T (p + 2)) && decide (T (cm T p) = 44) && dg (T (cm T p + 1)) && decide (T (cm T p + 2) = 59)) = false := by
        rw [Bool.eq_false_iff]
        intro w
        simp only [Bool.and_eq_true, decide_eq_true_eq] at w
        exact q1 ⟨w.1.1.1.1, w.1.1.1.2, w.1.1.2, w.1.2⟩
      rw [q2, hg]
      simp only [bd]
      rw [st_tail0, if_neg (by decide), if_neg (by decide)]
      refine ⟨_, rfl, ?_, fs, fun w => absurd w (by decide)⟩
      rw [q3]
      by_cases g1 : kd (T (p + 1)) < 6
      · rw [if_pos g1, if_pos g1]
        by_cases g2 : dg (T (p + 2)) = true
        · rw [if_pos g2, if_pos g2]
          by_cases g3 : T (cm T p) = 44
          · rw [if_pos g3, if_pos g3]
            by_cases g4 : dg (T (cm T p + 1)) = true
            · exact absurd ⟨g1, g2, g3, g4⟩ q1
            · rw [if_neg g4]
          · rw [if_neg g3, if_neg g3]
        · rw [if_neg g2, if_neg g2]
      · rw [if_neg g1, if_neg g1]
  · rw [if_neg (fun w => h1 (hc1.mp w)), if_neg (fun w => h1 (hc1.mp w))]
    by_cases h2 : T p = 119
    · rw [if_pos (hc2.mpr h2), if_pos (hc2.mpr h2)]
      have e9 : chI (T p) = nI (T p) := by rw [h2]; rfl
      unfold gs fe
      rw [if_neg h1, if_neg h1, if_pos h2, if_pos h2]
      by_cases h3 : dg (T (p + 1)) = true
      · obtain ⟨N1, n1, ⟨a1, a2, a3⟩, a4⟩ := m_num1 (fu := fu) (by omega) hT x1 (by omega) (x := 3 * k) (by omega) h3
        rw [n1]
        simp only [bd]
        rw [if_neg n10, nI_1]
        have fs1 : FS M N1 := fun a a9 a10 a11 a12 a13 a15 => (a3 a a11 a15).trans (ko a a9 a10 a15)
        by_cases h4 : dg (T (p + 2)) = true
        · obtain ⟨N, m1, ⟨b1, b2, b3⟩, b4⟩ := m_num1 (fu := fu) (by omega) hT a4 (by omega) (x := 3 * k + 1) (by omega) h4
          rw [m1]
          simp only [bd]
          rw [if_neg n10, st_tail hT b4 (by omega)]
          have ro : ∀ a, a ≠ 11 → a ≠ 15 → N a = M1 a := fun a h11 h15 => (b3 a h11 h15).trans (a3 a h11 h15)
          have fs : FS M N := fun a a9 a10 a11 a12 a13 a15 => (ro a a11 a15).trans (ko a a9 a10 a15)
          by_cases h5 : T (p + 3) = 59
          · have hg : (dg (T (p + 1)) && dg (T (p + 2)) && decide (T (p + 3) = 59)) = true := by simp [h3, h4, h5]
            rw [hg, if_pos (show T (p + 1 + 1 + 1) = 59 from h5), if_pos (show T (p + 1 + 1 + 1) = 59 from h5), if_pos rfl, if_pos rfl, if_pos h3, if_pos h4]
            refine ⟨_, rfl, rfl, fun a a9 a10 a11 a12 a13 a15 => (sa_ne a15).trans (fs a a9 a10 a11 a12 a13 a15), fun _ => ⟨⟨fun i hi => ⟨?_, ?_, ?_, ?_⟩, fun i hi => ?_⟩, ?_, ?_, fun w => absurd w h1, fun _ => ⟨?_, b1⟩, fun w => ?_⟩⟩
            · show N 9 i = _
              rw [ro 9 (by decide) (by decide), k9]; exact pk_un hi
            · show N 10 i = _
              rw [ro 10 (by decide) (by decide), k10]; exact pk_un hi
            · show N 12 i = _
              rw [ro 12 (by decide) (by decide), ko 12 (by decide) (by decide) (by decide)]
            · show N 13 i = _
              rw [ro 13 (by decide) (by decide), ko 13 (by decide) (by decide) (by decide)]
            · show N 11 i = _
              rw [b2 i (by omega), a2 i (by omega), ko 11 (by decide) (by decide) (by decide)]
            · show N 9 k = _
              rw [ro 9 (by decide) (by decide), k9, ← e9]; exact pk_us
            · show N 10 k = _
              rw [ro 10 (by decide) (by decide), k10]; exact pk_us
            · show N 11 (3 * k) = _
              rw [b2 (3 * k) (by omega)]; exact a1
            · rw [h2] at w; exact absurd w (by decide)
          · have hg : (dg (T (p + 1)) && dg (T (p + 2)) && decide (T (p + 3) = 59)) = false := by simp [h5]
            rw [hg, if_neg (show ¬ T (p + 1 + 1 + 1) = 59 from h5), if_neg (show ¬ T (p + 1 + 1 + 1) = 59 from h5), if_neg (by decide), if_neg (by decide), if_pos h3, if_pos h4]
            exact ⟨_, rfl, b4.2.2, fs, fun w => absurd w (by decide)⟩
        · have hg : (dg (T (p + 1)) && dg (T (p + 2)) && decide (T (p + 3) = 59)) = false := by simp [h4]
          rw [m_num0 hT a4 (by omega) (by simpa using h4), hg]
          simp only [bd]
          rw [if_pos trivial, st_tail0, if_neg (by decide), if_neg (by decide), if_pos h3, if_neg h4]
          exact ⟨_, rfl, a4.2.2, fs1, fun w => absurd w (by decide)⟩
      · have hg : (dg (T (p + 1)) && dg (T (p + 2)) && decide (T (p + 3) = 59)) = false := by simp [h3]
        rw [m_num0 hT x1 (by omega) (by simpa using h3), hg]
        simp only [bd]
        rw [if_pos trivial, st_tail0, if_neg (by decide), if_neg (by decide), if_neg h3]
        exact ⟨_, rfl, x1.2.2, fun a a9 a10 a11 a12 a13 a15 => ko a a9 a10 a15, fun w => absurd w (by decide)⟩
    · rw [if_neg (fun w => h2 (hc2.mp w)), if_neg (fun w => h2 (hc2.mp w))]
      unfold gs fe
      rw [if_neg h1, if_neg h1, if_neg h2, if_neg h2]
      by_cases h3 : T p = 121
      · rw [if_pos (hc3.mpr h3), if_pos h3, if_pos h3]
        have e9 : chI (T p) = nI (T p) := by rw [h3]; rfl
        obtain ⟨N, r1, r2, r3, r4, r5, r6⟩ := m_rd (fu := fu) hfu hT x1 (by omega) hk (by rw [ko 16 (by decide) (by decide) (by decide)]; exact h16)
        have h8 := yk_le T p
        rw [r1]
        simp only [bd]
        rw [st_tail hT r2 (by omega)]
        have fs : FS M N := fun a a9 a10 a11 a12 a13 a15 => (r6 a a12 a13 a15).trans (ko a a9 a10 a15)
        by_cases h5 : T (p + 1 + yk T p) = 59
        · have hg : decide (T (p + 1 + yk T p) = 59) = true := by simp [h5]
          rw [hg, if_pos h5, if_pos h5, if_pos rfl, if_pos rfl]
          refine ⟨_, rfl, rfl, fun a a9 a10 a11 a12 a13 a15 => (sa_ne a15).trans (fs a a9 a10 a11 a12 a13 a15), fun _ => ⟨⟨fun i hi => ⟨?_, ?_, ?_, ?_⟩, fun i hi => ?_⟩, ?_, ?_, fun w => absurd w h1, fun w => absurd w h2, fun _ => ⟨r3, r4⟩⟩⟩
          · show N 9 i = _
            rw [r6 9 (by decide) (by decide) (by decide), k9]; exact pk_un hi
          · show N 10 i = _
            rw [r6 10 (by decide) (by decide) (by decide), k10]; exact pk_un hi
          · show N 12 i = _
            rw [(r5 i hi).1, ko 12 (by decide) (by decide) (by decide)]
          · show N 13 i = _
            rw [(r5 i hi).2, ko 13 (by decide) (by decide) (by decide)]
          · show N 11 i = _
            rw [r6 11 (by decide) (by decide) (by decide), ko 11 (by decide) (by decide) (by decide)]
          · show N 9 k = _
            rw [r6 9 (by decide) (by decide) (by decide), k9, ← e9]; exact pk_us
          · show N 10 k = _
            rw [r6 10 (by decide) (by decide) (by decide), k10]; exact pk_us
        · have hg : decide (T (p + 1 + yk T p) = 59) = false := by simp [h5]
          rw [hg, if_neg h5, if_neg h5, if_neg (by decide), if_neg (by decide)]
          exact ⟨_, rfl, r2.2.2, fs, fun w => absurd w (by decide)⟩
      · rw [if_neg (fun w => h3 (hc3.mp w)), if_neg h3, if_neg h3, if_neg (by decide), if_neg (by decide)]
        exact ⟨_, rfl, hX.2.2, fun _ _ _ _ _ _ _ => rfl, fun w => absurd w (by decide)⟩
