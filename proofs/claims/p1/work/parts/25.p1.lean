/-! p1: one call on a fresh object: both sides run out on the empty state -/
theorem z4_alive (fu : Nat) (l : Int32) : f_X3_isAlive fu zS l = some 0 := by
  unfold f_X3_isAlive
  by_cases h1 : l < (0 : Int32)
  · rw [if_pos h1]
  · rw [if_neg h1]
    by_cases h2 : (8 : Int32) ≤ l
    · rw [if_pos h2]
    · rw [if_neg h2, if_pos (show zS 5 0 ≤ l from fa_of_nlt h1)]
theorem z5_alive (fu : Nat) (l : Int32) : f_X5_isAlive fu zS l = some 0 := by
  unfold f_X5_isAlive
  by_cases h1 : l < (0 : Int32)
  · rw [if_pos h1]
  · rw [if_neg h1, if_pos (show zS 6 0 ≤ l from fa_of_nlt h1)]
theorem z4_r (x : Int32) (h : x = -1 ∨ x = -2 ∨ x = -3 ∨ x = -4 ∨ x = -6) : ∃ T : S32, f_X4_refuse 1000 zS x = some (x, T) := by
  rcases h with rfl | rfl | rfl | rfl | rfl <;> exact ⟨_, rfl⟩
theorem z5_r (x : Int32) (h : x = -1 ∨ x = -2 ∨ x = -3 ∨ x = -4 ∨ x = -6) : ∃ T : S32, f_X5_no 1000 zS x = some (x, T) := by
  rcases h with rfl | rfl | rfl | rfl | rfl <;> exact ⟨_, rfl⟩
theorem z_lodger (a1 a2 : Int32) : ∃ o1 o2, f_X4_lodger 1000 zS zS a1 a2 = some o1 ∧ f_X5_lodger 1000 zS a1 a2 = some o2 ∧ o1.1 = o2.1 := by
  obtain ⟨T, hT⟩ := z4_r (-1) (Or.inl rfl)
  obtain ⟨V, hV⟩ := z5_r (-1) (Or.inl rfl)
  refine ⟨(-1, T), (-1, V), ?_, ?_, rfl⟩
  · simp [f_X4_lodger, z4_alive, bd, hT]
  · simp [f_X5_lodger, z5_alive, bd, hV]
theorem z_letter (a1 : Int32) : ∃ o1 o2, f_X4_letter 1000 zS zS a1 = some o1 ∧ f_X5_letter 1000 zS a1 = some o2 ∧ o1.1 = o2.1 := by
  obtain ⟨T, hT⟩ := z4_r (-4) (by decide)
  obtain ⟨V, hV⟩ := z5_r (-4) (by decide)
  obtain ⟨T2, hT2⟩ := z4_r (-6) (by decide)
  obtain ⟨V2, hV2⟩ := z5_r (-6) (by decide)
  unfold f_X4_letter f_X5_letter f_X5_bound
  by_cases h1 : (0 : Int32) ≤ a1
  · rw [if_pos h1, if_pos h1]
    by_cases h2 : a1 ≤ (255 : Int32)
    · rw [if_neg (show ¬ (255 : Int32) < a1 from fun q => (fa_of_lt q).2.1 h2), if_pos h2]
      exact ⟨_, _, rfl, rfl, rfl⟩
    · rw [if_pos (fa_of_nle h2), if_neg h2]
      exact ⟨(-6, T2, zS), (-6, V2), by simp [f_X4_letter_28, bd, hT2], by simp [bd, f_X5_letter_25, hV2, zS], rfl⟩
  · rw [if_neg h1, if_neg h1]
    exact ⟨(-4, T, zS), (-4, V), by simp [bd, hT], by simp [bd, f_X5_letter_25, hV, zS], rfl⟩
theorem z_map {α β : Type} {x : Option α} {f : α → β} {y : β} (h : x.map f = some y) : ∃ o, x = some o ∧ f o = y := by
  cases x with
  | none => cases h
  | some o => exact ⟨o, rfl, Option.some.inj h⟩
theorem z_pair {α β γ : Type} {x : Option α} {y : Option β} {f : α → γ} {g : β → γ} {c : γ} (h1 : x.map f = some c) (h2 : y.map g = some c) : ∃ o1 o2, x = some o1 ∧ y = some o2 ∧ f o1 = g o2 := by
  obtain ⟨o1, a1, b1⟩ := z_map h1
  obtain ⟨o2, a2, b2⟩ := z_map h2
  exact ⟨o1, o2, a1, a2, b1.trans b2.symm⟩
theorem z_house : ∃ o1 o2, f_X4_house 1000 zS zS zS zS = some o1 ∧ f_X5_house 1000 zS = some o2 ∧ o1.1 = o2.1 := z_pair (f := Prod.fst) (g := Prod.fst) (c := (-1000 : Int32)) (by decide +kernel) (by decide +kernel)
theorem z4_who (f : Int32) : f_X3_whoLivesOn 1000 zS f = some (-1) := rfl
theorem z5_who (f : Int32) : f_X5_whoOn 1000 zS f = some (-9) := rfl
theorem z_e4 (k a : Int32) : ∃ e, f_X0_entryFloor 1000 k a = some e := by
  unfold f_X0_entryFloor
  by_cases h1 : k = (3 : Int32)
  · exact ⟨_, by rw [if_pos h1]⟩
  · by_cases h2 : k = (5 : Int32)
    · exact ⟨_, by rw [if_neg h1, if_pos h2]⟩
    · exact ⟨_, by rw [if_neg h1, if_neg h2]⟩
theorem z_e5 (k a : Int32) : ∃ e, f_X5_entryOf 1000 k a = some e := by
  unfold f_X5_entryOf
  by_cases h1 : k = (3 : Int32)
  · exact ⟨_, by rw [if_pos h1]⟩
  · by_cases h2 : k = (5 : Int32)
    · by_cases h3 : a / (10 : Int32) ≤ (0 : Int32)
      · exact ⟨_, by rw [if_neg h1, if_pos h2, if_pos h3]⟩
      · exact ⟨_, by rw [if_neg h1, if_pos h2, if_neg h3]⟩
    · exact ⟨_, by rw [if_neg h1, if_neg h2]⟩
theorem z_enter (a1 a2 a3 : Int32) : ∃ o1 o2, f_X4_enter 1000 zS zS a1 a2 a3 = some o1 ∧ f_X5_enter 1000 zS a1 a2 a3 = some o2 ∧ o1.1 = o2.1 := by
  obtain ⟨T2, hT2⟩ := z4_r (-2) (by decide)
  obtain ⟨V2, hV2⟩ := z5_r (-2) (by decide)
  obtain ⟨T4, hT4⟩ := z4_r (-4) (by decide)
  obtain ⟨V4, hV4⟩ := z5_r (-4) (by decide)
  obtain ⟨T6, hT6⟩ := z4_r (-6) (by decide)
  obtain ⟨V6, hV6⟩ := z5_r (-6) (by decide)
  obtain ⟨e4, he4⟩ := z_e4 a1 a2
  obtain ⟨e5, he5⟩ := z_e5 a1 a2
  have hk : f_X4_isKind 1000 a1 = f_X5_isIn 1000 a1 0 5 := by
    unfold f_X4_isKind f_X5_isIn
    by_cases h1 : a1 < (0 : Int32)
    · rw [if_pos h1, if_pos h1]
    · rw [if_neg h1, if_neg h1]
      by_cases h2 : (6 : Int32) ≤ a1
      · rw [if_pos h2, if_pos (by rw [fa_lt]; rw [fa_le] at h2; have : (6 : Int32).toInt = 6 := rfl; have : (5 : Int32).toInt = 5 := rfl; omega)]
      · rw [if_neg h2, if_neg (by rw [fa_lt]; rw [fa_le] at h2; have : (6 : Int32).toInt = 6 := rfl; have : (5 : Int32).toInt = 5 := rfl; omega)]
  unfold f_X4_enter f_X5_enter
  rw [hk]
  have hk2 : f_X5_isIn 1000 a1 0 5 = some 0 ∨ f_X5_isIn 1000 a1 0 5 = some 1 := by
    unfold f_X5_isIn
    by_cases h1 : a1 < (0 : Int32)
    · rw [if_pos h1]; exact Or.inl rfl
    · rw [if_neg h1]
      by_cases h2 : (5 : Int32) < a1
      · rw [if_pos h2]; exact Or.inl rfl
      · rw [if_neg h2]; exact Or.inr rfl
  rcases hk2 with hk2 | hk2
  · rw [hk2]
    exact ⟨(-2, T2, zS), (-2, V2), by simp [bd, hT2], by simp [bd, f_X5_enter_71, hV2], rfl⟩
  · rw [hk2]
    have h10 : ¬ (1 : Int32) = 0 := by decide
    simp only [bd, if_neg h10]
    have r4 : ∃ o1 o2, f_X4_enter_22 1000 zS zS = some o1 ∧ f_X5_enter_22 1000 a1 a2 a3 zS = some o2 ∧ o1.1 = o2.1 := ⟨(-4, T4, zS), (-4, V4), by simp [f_X4_enter_22, bd, hT4], by simp [bd, f_X5_enter_22, f_X5_enter_71, hV4], rfl⟩
    have r6 : ∃ o1 o2, f_X4_enter_51 1000 zS zS = some o1 ∧ f_X5_enter_48 1000 a1 a2 a3 zS = some o2 ∧ o1.1 = o2.1 := ⟨(-6, T6, zS), (-6, V6), by simp [f_X4_enter_51, bd, hT6], by simp [bd, f_X5_enter_48, f_X5_enter_71, hV6], rfl⟩
    by_cases h2 : a2 < (0 : Int32)
    · rw [if_pos h2, if_pos h2]; exact r4
    · rw [if_neg h2, if_neg h2]
      by_cases h3 : (0 : Int32) ≤ a3
      · rw [if_pos h3, if_pos h3]
        by_cases h4 : (99 : Int32) < a2
        · rw [if_pos h4, if_pos h4]; exact r6
        · rw [if_neg h4, if_neg h4]
          by_cases h5 : (9 : Int32) < a3
          · rw [if_pos h5, if_pos h5]; exact r6
          · rw [if_neg h5, if_neg h5]
            have c4 : f_X3_couldComeIn 1000 zS a1 a2 = some 1 := by
              unfold f_X3_couldComeIn
              rw [show f_X3_isFull 1000 zS = some 0 from rfl, he4]
              simp only [bd]
              rw [z4_who]
              rfl
            have d4 : f_X3_admit 1000 zS a1 a2 a3 = (bd (f_X0_entryFloor 1000 a1 a2) fun o_5 => some ((0 : Int32), (sa (sa (sa (sa (sa (sa zS 0 (upd (zS 0) 0 a1)) 1 (upd (zS 1) 0 a2)) 2 (upd (zS 2) 0 o_5)) 3 (upd (zS 3) 0 a3)) 4 (upd (zS 4) 0 (-1 : Int32))) 5 (fun _ => 1)))) := by
              unfold f_X3_admit
              cases f_X0_entryFloor 1000 a1 a2 with
              | none => rfl
              | some e => rfl
            have c5 : ∃ V : S32, f_X5_comesIn 1000 zS a1 a2 a3 = some (1, V) ∧ V 6 0 = 1 := by
              unfold f_X5_comesIn
              rw [he5]
              exact ⟨_, rfl, rfl⟩
            obtain ⟨V, hV, hV6⟩ := c5
            rw [c4, show f_X3_isFull 1000 zS = some 0 from rfl, d4, he4, he5]
            simp only [bd]
            rw [z5_who]
            refine ⟨_, (0, V), rfl, ?_, rfl⟩
            have e1 : ¬ (zS 6 0 = (8 : Int32)) := by decide
            have e2 : (-9 : Int32) < 0 := by decide
            rw [if_neg e1]
            show (if (-9 : Int32) < 0 then f_X5_enter_71 1000 a1 a2 a3 0 zS else f_X5_enter_71 1000 a1 a2 a3 (-3) zS) = some (0, V)
            rw [if_pos e2]
            unfold f_X5_enter_71
            rw [if_pos rfl, hV]
            simp only [bd]
            rw [hV6]
            rfl
      · rw [if_neg h3, if_neg h3]; exact r4
theorem z_wish (a1 a2 : Int32) : ∃ o1 o2, f_X4_wish 1000 zS zS a1 a2 = some o1 ∧ f_X5_wish 1000 zS a1 a2 = some o2 ∧ o1.1 = o2.1 := by
  obtain ⟨T, hT⟩ := z4_r (-1) (Or.inl rfl)
  obtain ⟨V, hV⟩ := z5_r (-1) (Or.inl rfl)
  exact ⟨(-1, T, zS), (-1, V), by simp [f_X4_wish, z4_alive, bd, hT], by simp [f_X5_wish, z5_alive, bd, f_X5_wish_20, hV], rfl⟩
theorem z_and (x : Int32) : x &&& ((0 : Int32) ^^^ (-1)) = x := by
  rw [show (0 : Int32) ^^^ (-1) = -1 from rfl]
  exact Int32.and_neg_one
theorem z4_are (x : Int32) : f_X3_areAlive 1000 zS x = if x = 0 then some 1 else some 0 := by
  unfold f_X3_areAlive
  rw [show f_X3_living 1000 zS = some 0 from rfl]
  simp only [bd]
  rw [z_and]
theorem z5_are (x : Int32) : f_X5_areAlive 1000 zS x = if x = 0 then some 1 else some 0 := by
  unfold f_X5_areAlive
  rw [show f_X5_aliveBits 1000 zS = some 0 from rfl]
  simp only [bd]
  rw [z_and]
  by_cases h : x < (0 : Int32)
  · rw [if_pos h, if_neg (fun q => by rw [q] at h; exact absurd h (by decide))]
  · rw [if_neg h]
theorem z_year (a1 : Int32) : ∃ o1 o2, f_X4_year 1000 zS zS a1 = some o1 ∧ f_X5_year 1000 zS a1 = some o2 ∧ o1.1 = o2.1 := by
  obtain ⟨T, hT⟩ := z4_r (-1) (Or.inl rfl)
  obtain ⟨V, hV⟩ := z5_r (-1) (Or.inl rfl)
  unfold f_X4_year f_X5_year
  rw [z4_are, z5_are]
  by_cases h : a1 = 0
  · subst h
    exact z_pair (f := Prod.fst) (g := Prod.fst) (c := (0 : Int32)) (by decide +kernel) (by decide +kernel)
  · rw [if_neg h]
    exact ⟨(-1, T, zS), (-1, V), by simp [bd, hT], by simp [bd, hV], rfl⟩
theorem z_carried (a1 : Int32) : ∃ o1 o2, f_X4_carried 1000 zS zS a1 = some o1 ∧ f_X5_carried 1000 zS a1 = some o2 ∧ o1.1 = o2.1 := by
  obtain ⟨T, hT⟩ := z4_r (-1) (Or.inl rfl)
  obtain ⟨V, hV⟩ := z5_r (-1) (Or.inl rfl)
  unfold f_X4_carried f_X5_carried
  rw [z4_are, z5_are]
  by_cases h : a1 = 0
  · subst h
    exact z_pair (f := Prod.fst) (g := Prod.fst) (c := (0 : Int32)) (by decide +kernel) (by decide +kernel)
  · rw [if_neg h]
    exact ⟨(-1, T), (-1, V), by simp [bd, hT], by simp [bd, hV], rfl⟩
theorem z_fl (x : Int32) : f_X4_isFloor 1000 x = f_X5_isFloor 1000 x ∧ (f_X5_isFloor 1000 x = some 0 ∨ f_X5_isFloor 1000 x = some 1) := by
  unfold f_X4_isFloor f_X5_isFloor
  by_cases h1 : x < (0 : Int32)
  · rw [if_pos h1, if_pos h1]; exact ⟨rfl, Or.inl rfl⟩
  · rw [if_neg h1, if_neg h1]
    by_cases h2 : (10 : Int32) ≤ x
    · rw [if_pos h2, if_pos (by rw [fa_lt]; rw [fa_le] at h2; have : (10 : Int32).toInt = 10 := rfl; have : (9 : Int32).toInt = 9 := rfl; omega)]; exact ⟨rfl, Or.inl rfl⟩
    · rw [if_neg h2, if_neg (by rw [fa_lt]; rw [fa_le] at h2; have : (10 : Int32).toInt = 10 := rfl; have : (9 : Int32).toInt = 9 := rfl; omega)]; exact ⟨rfl, Or.inr rfl⟩
theorem z_on (a1 : Int32) : ∃ o1 o2, f_X4_on 1000 zS zS a1 = some o1 ∧ f_X5_on 1000 zS a1 = some o2 ∧ o1.1 = o2.1 := by
  obtain ⟨T, hT⟩ := z4_r (-1) (Or.inl rfl)
  obtain ⟨V, hV⟩ := z5_r (-1) (Or.inl rfl)
  unfold f_X4_on f_X5_on
  obtain ⟨h1, h2⟩ := z_fl a1
  rw [h1]
  rcases h2 with h2 | h2
  · rw [h2]
    exact ⟨(-1, T), (-1, V), by simp [bd, hT], by simp [bd, hV], rfl⟩
  · rw [h2]
    exact ⟨(-9, zS), (-9, zS), by simp [bd, z4_who], by simp [bd, z5_who], rfl⟩
theorem z_likely (a1 a2 a3 a4 : Int32) : ∃ o1 o2, f_X4_likely 1000 zS zS zS64 a1 a2 a3 a4 = some o1 ∧ f_X5_likely 1000 zS a1 a2 a3 a4 = some o2 ∧ o1.1 = o2.1 := by
  unfold f_X4_likely f_X5_likely
  rw [z4_alive, z5_alive]
  exact ⟨_, _, rfl, rfl, rfl⟩
theorem z_mean : ∃ o1 o2, f_X4_mean 1000 zS zS = some o1 ∧ f_X5_mean 1000 zS = some o2 ∧ o1 = o2 := ⟨_, _, rfl, rfl, rfl⟩
theorem z_deaths (a1 a2 a3 : Int32) : ∃ o1 o2, f_X4_deaths 1000 zS zS a1 a2 a3 = some o1 ∧ f_X5_deaths 1000 zS a1 a2 a3 = some o2 ∧ o1.1 = o2.1 := by
  obtain ⟨T, hT⟩ := z4_r (-1) (Or.inl rfl)
  obtain ⟨V, hV⟩ := z5_r (-1) (Or.inl rfl)
  exact ⟨(-1, T), (-1, V), by simp [f_X4_deaths, z4_alive, bd, f_X4_deaths_18, hT], by simp [f_X5_deaths, z5_alive, bd, f_X5_deaths_15, hV], rfl⟩
theorem z_stuck : ∃ o1 o2, f_X4_stuck 1000 zS zS = some o1 ∧ f_X5_stuck 1000 zS = some o2 ∧ o1 = o2 := ⟨_, _, rfl, rfl, rfl⟩
theorem z_safe (a1 : Int32) : ∃ o1 o2, f_X4_safe 1000 zS zS a1 = some o1 ∧ f_X5_safe 1000 zS a1 = some o2 ∧ o1.1 = o2.1 := by
  obtain ⟨T, hT⟩ := z4_r (-1) (Or.inl rfl)
  obtain ⟨V, hV⟩ := z5_r (-1) (Or.inl rfl)
  exact ⟨(-1, T), (-1, V), by simp [f_X4_safe, z4_alive, bd, hT], by simp [f_X5_safe, z5_alive, bd, hV], rfl⟩
theorem z_leastCarried : ∃ o1 o2, f_X4_leastCarried 1000 zS zS = some o1 ∧ f_X5_leastCarried 1000 zS = some o2 ∧ o1 = o2 := ⟨_, _, rfl, rfl, rfl⟩
theorem z_rings : ∃ o1 o2, f_X4_rings 1000 zS zS = some o1 ∧ f_X5_rings 1000 zS = some o2 ∧ o1 = o2 := ⟨_, _, rfl, rfl, rfl⟩
theorem z_changing : ∃ o1 o2, f_X4_changing 1000 zS zS = some o1 ∧ f_X5_changing 1000 zS = some o2 ∧ o1.1 = o2.1 := z_pair (f := Prod.fst) (g := Prod.fst) (c := (0 : Int32)) (by decide +kernel) (by decide +kernel)
theorem z_free : ∃ o1 o2, f_X4_free 1000 zS zS = some o1 ∧ f_X5_free 1000 zS = some o2 ∧ o1 = o2 := ⟨1023, 1023, by decide +kernel, by decide +kernel, rfl⟩
theorem z_01 (x : Int32) : (x = 0 ∧ f_X5_isIn 1000 x 0 1 = some 1) ∨ (x = 1 ∧ f_X5_isIn 1000 x 0 1 = some 1) ∨ (¬ x = 0 ∧ ¬ x = 1 ∧ f_X5_isIn 1000 x 0 1 = some 0) := by
  by_cases h0 : x = 0
  · subst h0; exact Or.inl ⟨rfl, rfl⟩
  · by_cases h1 : x = 1
    · subst h1; exact Or.inr (Or.inl ⟨rfl, rfl⟩)
    · refine Or.inr (Or.inr ⟨h0, h1, ?_⟩)
      unfold f_X5_isIn
      rw [fa_eq] at h0 h1
      have e0 : (0 : Int32).toInt = 0 := rfl
      have e1 : (1 : Int32).toInt = 1 := rfl
      by_cases h2 : x < (0 : Int32)
      · rw [if_pos h2]
      · rw [if_neg h2, if_pos (by rw [fa_lt]; rw [fa_lt] at h2; omega)]
theorem z_kd (x : Int32) : (¬ (f_X4_isKind 1000 x = some 1) ∧ f_X4_isKind 1000 x = some 0 ∧ f_X5_isIn 1000 x 0 5 = some 0) ∨ (x = 0 ∨ x = 1 ∨ x = 2 ∨ x = 3 ∨ x = 4 ∨ x = 5) := by
  unfold f_X4_isKind f_X5_isIn
  have e0 : (0 : Int32).toInt = 0 := rfl
  have e5 : (5 : Int32).toInt = 5 := rfl
  have e6 : (6 : Int32).toInt = 6 := rfl
  by_cases h1 : x < (0 : Int32)
  · rw [if_pos h1, if_pos h1]; exact Or.inl ⟨by decide, rfl, rfl⟩
  · rw [if_neg h1, if_neg h1]
    by_cases h2 : (6 : Int32) ≤ x
    · rw [if_pos h2, if_pos (by rw [fa_lt]; rw [fa_le] at h2; omega)]; exact Or.inl ⟨by decide, rfl, rfl⟩
    · right
      have h3 : ¬ x.toInt < 0 := fun q => h1 (by rw [fa_lt]; exact q)
      have h4 : x.toInt < 6 := by rw [fa_le] at h2; omega
      have h5 : x.toInt = 0 ∨ x.toInt = 1 ∨ x.toInt = 2 ∨ x.toInt = 3 ∨ x.toInt = 4 ∨ x.toInt = 5 := by omega
      rcases h5 with h | h | h | h | h | h
      · exact Or.inl ((fa_eq _ _).mpr h)
      · exact Or.inr (Or.inl ((fa_eq _ _).mpr h))
      · exact Or.inr (Or.inr (Or.inl ((fa_eq _ _).mpr h)))
      · exact Or.inr (Or.inr (Or.inr (Or.inl ((fa_eq _ _).mpr h))))
      · exact Or.inr (Or.inr (Or.inr (Or.inr (Or.inl ((fa_eq _ _).mpr h)))))
      · exact Or.inr (Or.inr (Or.inr (Or.inr (Or.inr ((fa_eq _ _).mpr h)))))
theorem z_ages (a1 a2 : Int32) : ∃ o1 o2, f_X4_ages 1000 zS zS a1 a2 = some o1 ∧ f_X5_ages 1000 zS a1 a2 = some o2 ∧ o1.1 = o2.1 := by
  obtain ⟨T, hT⟩ := z4_r (-2) (by decide)
  obtain ⟨V, hV⟩ := z5_r (-2) (by decide)
  rcases z_kd a1 with ⟨-, h4, h5⟩ | hk
  · exact ⟨(-2, T), (-2, V), by simp [f_X4_ages, h4, bd, f_X4_ages_16, hT], by simp [f_X5_ages, h5, bd, f_X5_ages_18, hV], rfl⟩
  · rcases z_01 a2 with ⟨rfl, h5⟩ | ⟨rfl, h5⟩ | ⟨n0, n1, h5⟩
    · rcases hk with rfl | rfl | rfl | rfl | rfl | rfl
      · exact z_pair (f := Prod.fst) (g := Prod.fst) (c := (100 : Int32)) (by decide +kernel) (by decide +kernel)
      · exact z_pair (f := Prod.fst) (g := Prod.fst) (c := (100 : Int32)) (by decide +kernel) (by decide +kernel)
      · exact z_pair (f := Prod.fst) (g := Prod.fst) (c := (100 : Int32)) (by decide +kernel) (by decide +kernel)
      · exact z_pair (f := Prod.fst) (g := Prod.fst) (c := (100 : Int32)) (by decide +kernel) (by decide +kernel)
      · exact z_pair (f := Prod.fst) (g := Prod.fst) (c := (100 : Int32)) (by decide +kernel) (by decide +kernel)
      · exact z_pair (f := Prod.fst) (g := Prod.fst) (c := (100 : Int32)) (by decide +kernel) (by decide +kernel)
    · rcases hk with rfl | rfl | rfl | rfl | rfl | rfl
      · exact z_pair (f := Prod.fst) (g := Prod.fst) (c := (0 : Int32)) (by decide +kernel) (by decide +kernel)
      · exact z_pair (f := Prod.fst) (g := Prod.fst) (c := (0 : Int32)) (by decide +kernel) (by decide +kernel)
      · exact z_pair (f := Prod.fst) (g := Prod.fst) (c := (0 : Int32)) (by decide +kernel) (by decide +kernel)
      · exact z_pair (f := Prod.fst) (g := Prod.fst) (c := (0 : Int32)) (by decide +kernel) (by decide +kernel)
      · exact z_pair (f := Prod.fst) (g := Prod.fst) (c := (0 : Int32)) (by decide +kernel) (by decide +kernel)
      · exact z_pair (f := Prod.fst) (g := Prod.fst) (c := (0 : Int32)) (by decide +kernel) (by decide +kernel)
    · have e4 : f_X4_isKind 1000 a1 = some 1 ∧ f_X5_isIn 1000 a1 0 5 = some 1 := by rcases hk with rfl | rfl | rfl | rfl | rfl | rfl <;> exact ⟨rfl, rfl⟩
      exact ⟨(-2, T), (-2, V), by simp [f_X4_ages, e4.1, bd, f_X4_ages_16, hT, n0, n1], by simp [f_X5_ages, e4.2, h5, bd, f_X5_ages_18, hV], rfl⟩
theorem z_row (a1 : Int32) : ∃ o1 o2, f_X4_row 1000 zS a1 = some o1 ∧ f_X5_row 1000 zS a1 = some o2 ∧ o1.1 = o2.1 := by
  obtain ⟨T, hT⟩ := z4_r (-4) (by decide)
  obtain ⟨V, hV⟩ := z5_r (-4) (by decide)
  obtain ⟨T2, hT2⟩ := z4_r (-6) (by decide)
  obtain ⟨V2, hV2⟩ := z5_r (-6) (by decide)
  unfold f_X4_row f_X5_row f_X5_bound
  by_cases h1 : (0 : Int32) ≤ a1
  · rw [if_pos h1, if_pos h1]
    by_cases h2 : a1 ≤ (10 : Int32)
    · rw [if_neg (show ¬ (10 : Int32) < a1 from fun q => (fa_of_lt q).2.1 h2), if_pos h2]
      exact ⟨_, _, rfl, rfl, rfl⟩
    · rw [if_pos (fa_of_nle h2), if_neg h2]
      exact ⟨(-6, T2), (-6, V2), by simp [f_X4_row_26, bd, hT2], by simp [bd, f_X5_row_24, hV2, zS], rfl⟩
  · rw [if_neg h1, if_neg h1]
    exact ⟨(-4, T), (-4, V), by simp [bd, hT], by simp [bd, f_X5_row_24, hV, zS], rfl⟩
theorem z_fitting (a1 : Int32) : ∃ o1 o2, f_X4_fitting 1000 zS zS a1 = some o1 ∧ f_X5_fitting 1000 zS a1 = some o2 ∧ o1.1 = o2.1 := by
  obtain ⟨T, hT⟩ := z4_r (-2) (by decide)
  obtain ⟨V, hV⟩ := z5_r (-2) (by decide)
  rcases z_01 a1 with ⟨rfl, h5⟩ | ⟨rfl, h5⟩ | ⟨n0, n1, h5⟩
  · exact z_pair (f := Prod.fst) (g := Prod.fst) (c := (1 : Int32)) (by decide +kernel) (by decide +kernel)
  · exact z_pair (f := Prod.fst) (g := Prod.fst) (c := (0 : Int32)) (by decide +kernel) (by decide +kernel)
  · exact ⟨(-2, T), (-2, V), by simp [f_X4_fitting, bd, hT, n0, n1], by simp [f_X5_fitting, h5, bd, hV], rfl⟩
theorem z_judge : ∃ o1 o2, f_X4_judge 1000 zS zS = some o1 ∧ f_X5_judge 1000 zS = some o2 ∧ o1.1 = o2.1 := z_pair (f := Prod.fst) (g := Prod.fst) (c := (-9 : Int32)) (by decide +kernel) (by decide +kernel)
theorem z_image : ∃ o1 o2, f_X4_image 1000 zS zS zS = some o1 ∧ f_X5_image 1000 zS = some o2 ∧ o1.1 = o2.1 := z_pair (f := Prod.fst) (g := Prod.fst) (c := (0 : Int32)) (by decide +kernel) (by decide +kernel)
theorem z_back : ∃ o1 o2, f_X4_back 1000 zS zS zS = some o1 ∧ f_X5_back 1000 zS = some o2 ∧ o1.1 = o2.1 := z_pair (f := Prod.fst) (g := Prod.fst) (c := (-3 : Int32)) (by decide +kernel) (by decide +kernel)
theorem z_count (a1 : Int32) : ∃ o1 o2, f_X4_count 1000 zS zS zS a1 = some o1 ∧ f_X5_count 1000 zS a1 = some o2 ∧ o1 = o2 := by
  by_cases h0 : a1 = 0
  · subst h0; exact ⟨0, 0, by decide +kernel, by decide +kernel, rfl⟩
  by_cases h1 : a1 = 1
  · subst h1; exact ⟨0, 0, by decide +kernel, by decide +kernel, rfl⟩
  by_cases h2 : a1 = 2
  · subst h2; exact ⟨0, 0, by decide +kernel, by decide +kernel, rfl⟩
  by_cases h3 : a1 = 3
  · subst h3; exact ⟨0, 0, by decide +kernel, by decide +kernel, rfl⟩
  by_cases h4 : a1 = 4
  · subst h4; exact ⟨0, 0, by decide +kernel, by decide +kernel, rfl⟩
  by_cases h5 : a1 = 5
  · subst h5; exact ⟨0, 0, by decide +kernel, by decide +kernel, rfl⟩
  by_cases h6 : a1 = 6
  · subst h6; exact ⟨0, 0, by decide +kernel, by decide +kernel, rfl⟩
  have e10 : (10 : Int32).toInt = 10 := rfl
  have e11 : (11 : Int32).toInt = 11 := rfl
  have e16 : (16 : Int32).toInt = 16 := rfl
  by_cases h7 : a1 ≤ (10 : Int32)
  · refine ⟨-9, -9, by simp [f_X4_count, h0, h1, h2, h3, h4, h5, h6, h7], ?_, rfl⟩
    have : a1 < (11 : Int32) := by rw [fa_lt]; rw [fa_le] at h7; omega
    simp [f_X5_count, f_X5_isIn, this, bd, h0, h1, h2, h3, h4, h5, h6]
  · have g7 : ¬ a1 < (11 : Int32) := by rw [fa_lt]; rw [fa_le] at h7; omega
    by_cases h8 : (16 : Int32) < a1
    · refine ⟨-9, -9, by simp [f_X4_count, h0, h1, h2, h3, h4, h5, h6, h7, h8], ?_, rfl⟩
      simp [f_X5_count, f_X5_isIn, g7, h8, bd, h0, h1, h2, h3, h4, h5, h6]
    · have hs : (a1 - 10).toInt = a1.toInt - 10 := by
        rw [fa_le] at h7; rw [fa_lt] at h8
        rw [fb_subI (by rw [e10]; omega) (by rw [e10]; omega), e10]
      have hin : ∀ k : Option Int32, gd (a1 - 10) 7 k = k := by
        intro k
        unfold gd
        have : vp_in (a1 - 10) 7 := vp_in_iff.mpr (by rw [fa_le] at h7; rw [fa_lt] at h8; omega)
        exact if_neg this
      refine ⟨0, 0, ?_, ?_, rfl⟩
      · simp [f_X4_count, h0, h1, h2, h3, h4, h5, h6, h7, h8, hin, zS]
      · simp [f_X5_count, f_X5_isIn, g7, h8, bd, hin, zS]
theorem z4_lots (n z : Int32) (hn : n ≤ nI 40) : ∀ (m j : Nat), j ≤ 40 → 41 ≤ m + j → f_X3_livingByLot_11 1000 zS m n 0 z (nI j) = some 0 := by
  intro m
  induction m with
  | zero => intro j h1 h2; exact absurd h2 (by omega)
  | succ m ih =>
    intro j h1 h2
    show s_X3_livingByLot_11 1000 (f_X3_livingByLot_11 1000 zS m) zS n 0 z (nI j) = some 0
    unfold s_X3_livingByLot_11
    by_cases h : n ≤ nI j
    · rw [if_pos h]
    · rw [if_neg h]
      have hj : j < 40 := by
        rcases Nat.lt_or_ge j 40 with q | q
        · exact q
        · exact absurd (by rw [show j = 40 by omega]; exact hn) h
      show f_X3_livingByLot_11 1000 zS m n 0 z (nI j + 1) = some 0
      rw [nI_1]
      exact ih (j + 1) (by omega) (by omega)
theorem z5_gy (SM : S32) (h : SM 6 0 = 0) (d : Int32) : f_X5_goesYear 1000 SM d = some (0, sa SM 7 (fun _ => SM 7 0 + 1)) := by
  have e : (0 : Int32) ≤ 0 := by decide
  show s_X5_goesYear_4 1000 (f_X5_goesYear_4 1000 999) d 0 0 SM = _
  unfold s_X5_goesYear_4
  rw [h, if_pos e]
  show s_X5_goesYear_32 1000 (f_X5_goesYear_32 1000 999) d 0 0 SM = _
  unfold s_X5_goesYear_32
  rw [h, if_pos e]
  rfl
theorem z5_end (SM : S32) (h : SM 6 0 = 0) : ∃ o, f_X5_lots_127 1000 SM = some o ∧ o.1 = 0 := by
  have e : (0 : Int32) ≤ 0 := by decide
  have ha : f_X5_aliveBits 1000 SM = some 0 := by
    show s_X5_aliveBits_4 1000 (f_X5_aliveBits_4 1000 SM 999) SM 0 0 = _
    unfold s_X5_aliveBits_4
    rw [h, if_pos e]
  obtain ⟨T, hT, -, -⟩ := pa_back 1000 (by omega) SM 1 (Or.inr (Or.inl rfl))
  unfold f_X5_lots_127
  rw [ha]
  simp only [bd]
  rw [show f_X5_passesAll 1000 SM 1 0 = some T from hT]
  exact ⟨_, rfl, rfl⟩
theorem z5_lots (n z : Int32) (hn : n ≤ nI 40) : ∀ (m j : Nat) (SM : S32), SM 6 0 = 0 → j ≤ 40 → 41 ≤ m + j → ∃ o, f_X5_lots_30 1000 m n z (nI j) SM = some o ∧ o.1 = 0 := by
  intro m
  induction m with
  | zero => intro j SM h0 h1 h2; exact absurd h2 (by omega)
  | succ m ih =>
    intro j SM h0 h1 h2
    show ∃ o, s_X5_lots_30 1000 (f_X5_lots_30 1000 m) n z (nI j) SM = some o ∧ o.1 = 0
    unfold s_X5_lots_30
    by_cases h : n ≤ nI j
    · rw [if_pos h]; exact z5_end SM h0
    · rw [if_neg h]
      have hj : j < 40 := by
        rcases Nat.lt_or_ge j 40 with q | q
        · exact q
        · exact absurd (by rw [show j = 40 by omega]; exact hn) h
      have e : (0 : Int32) ≤ 0 := by decide
      show ∃ o, s_X5_lots_42 1000 (f_X5_lots_30 1000 m) (f_X5_lots_42 1000 (f_X5_lots_30 1000 m) 999) n z (nI j) 0 0 SM = some o ∧ o.1 = 0
      unfold s_X5_lots_42
      rw [h0, if_pos e]
      unfold f_X5_lots_114
      rw [z5_gy SM h0]
      simp only [bd]
      rw [nI_1]
      exact ih (j + 1) _ (by simp [sa_eq, h0]) (by omega) (by omega)
theorem z_lots (a1 a2 : Int32) : ∃ o1 o2, f_X4_lots 1000 zS zS a1 a2 = some o1 ∧ f_X5_lots 1000 zS a1 a2 = some o2 ∧ o1.1 = o2.1 := by
  obtain ⟨T, hT⟩ := z4_r (-4) (by decide)
  obtain ⟨V, hV⟩ := z5_r (-4) (by decide)
  obtain ⟨T2, hT2⟩ := z4_r (-6) (by decide)
  obtain ⟨V2, hV2⟩ := z5_r (-6) (by decide)
  unfold f_X4_lots f_X5_lots f_X5_bound
  by_cases h1 : (1 : Int32) ≤ a1
  · rw [if_pos h1, if_pos h1]
    by_cases h2 : a1 ≤ (40 : Int32)
    · rw [if_pos h2, if_pos h2]
      simp only [bd]
      rw [if_pos trivial]
      obtain ⟨P, hP, -, hP6, -⟩ := pa_keep 1000 (by omega) zS 1 (Or.inr (Or.inl rfl))
      obtain ⟨o, ho, ho1⟩ := z5_lots a1 a2 h2 1000 0 P hP6 (by omega) (by omega)
      rw [show f_X5_passesAll 1000 zS 1 1 = some P from hP]
      refine ⟨(0, zS), o, ?_, ho, ho1.symm⟩
      unfold f_X3_livingByLot
      rw [show f_X3_living 1000 zS = some 0 from rfl]
      simp only [bd]
      rw [show f_X3_livingByLot_11 1000 zS 1000 a1 0 a2 (0 : Int32) = some 0 from z4_lots a1 a2 h2 1000 0 (by omega) (by omega)]
    · rw [if_neg h2, if_neg h2]
      exact ⟨(-6, T2), (-6, V2), by simp [bd, hT2], by simp [bd, hV2], rfl⟩
  · rw [if_neg h1, if_neg h1]
    exact ⟨(-4, T), (-4, V), by simp [bd, hT], by simp [bd, hV], rfl⟩
/-- p1's relation: the state ahead of the first call -/
def RXp (k : Nat) (SV SN SR SK SL : S32) (SO : S64) (SM : S32) : Prop := k = 0 → SV = zS ∧ SN = zS ∧ SR = zS ∧ SK = zS ∧ SL = zS ∧ SO = zS64 ∧ SM = zS
theorem RXp_n {k : Nat} {SV SN SR SK SL : S32} {SO : S64} {SM : S32} : RXp (k + 1) SV SN SR SK SL SO SM := fun h => absurd h (by omega)
