/-! rows put away and back: what passes and passesAll do, in any state -/
theorem sa_sa {α : Type} (T : Nat → Nat → α) (a : Nat) (f g : Nat → α) : sa (sa T a f) a g = sa T a g := by
  funext x
  simp only [sa_eq]
  by_cases h : x = a
  · rw [if_pos h, if_pos h]
  · rw [if_neg h, if_neg h, if_neg h]
theorem gd_in {α : Type} {n j : Nat} {k : Option α} (h : j < n) (hn : n < 2 ^ 31) : gd (nI j) n k = k := if_neg (nI_in h hn)
theorem gd_vp {α : Type} {i : Int32} {n : Nat} {k : Option α} (h : vp_in i n) : gd i n k = k := if_neg h
theorem i8 {j : Nat} (h : j < 8) : ¬ ((8 : Int32) ≤ nI j) := nI_ge (a := j) (b := 8) h (Nat.le_of_ble_eq_true rfl)
theorem ps_st (SM : S32) (a : Nat) (P : Nat → Int32) (C C2 : Int32) (Q : Nat → Int32) (h : a ≠ 20) : sa (sa (sa (sa SM a P) 20 (fun _ => C)) a Q) 20 (fun _ => C2) = sa (sa SM a Q) 20 (fun _ => C2) := by
  funext x
  simp only [sa_eq]
  by_cases h1 : x = 20
  · rw [if_pos h1, if_pos h1]
  · rw [if_neg h1, if_neg h1]
    by_cases h2 : x = a
    · rw [if_pos h2, if_neg h1, if_pos h2]
    · simp [h1, h2]
theorem ps_keep_v1 (fu : Nat) (SM : S32) (c : Nat) (hc : c + 8 ≤ 130) (h19 : ¬ SM 19 0 = 0) : ∀ (m j : Nat), j ≤ 8 → 9 ≤ m + j → f_X5_passes_v1_2 fu m (nI j) (sa (sa SM 17 (fb_put (SM 17) (SM 1) c j)) 20 (fun _ => nI (c + j))) = some (sa (sa SM 17 (fb_put (SM 17) (SM 1) c 8)) 20 (fun _ => nI (c + 8))) := by
  intro m
  induction m with
  | zero => intro j h1 h2; exact absurd h2 (by omega)
  | succ m ih =>
    intro j h1 h2
    show s_X5_passes_v1_2 fu (f_X5_passes_v1_2 fu m) (nI j) _ = _
    unfold s_X5_passes_v1_2
    rcases Nat.lt_or_ge j 8 with hj | hj
    · rw [if_neg (i8 hj)]
      have e19 : sa (sa SM 17 (fb_put (SM 17) (SM 1) c j)) 20 (fun _ => nI (c + j)) 19 0 = SM 19 0 := by simp [sa_eq]
      have e20 : sa (sa SM 17 (fb_put (SM 17) (SM 1) c j)) 20 (fun _ => nI (c + j)) 20 0 = nI (c + j) := by simp [sa_eq]
      have e17 : sa (sa SM 17 (fb_put (SM 17) (SM 1) c j)) 20 (fun _ => nI (c + j)) 17 = fb_put (SM 17) (SM 1) c j := by simp [sa_eq]
      have ef : sa (sa SM 17 (fb_put (SM 17) (SM 1) c j)) 20 (fun _ => nI (c + j)) 1 = SM 1 := by simp [sa_eq]
      rw [e19, if_neg h19, gd_in hj (by omega), e20, gd_in (by omega) (by omega), e17, ef, nI_clamp (by omega), nI_clamp (by omega), fb_put_succ]
      unfold f_X5_passes_v1_42
      rw [nI_1, show sa (sa (sa SM 17 (fb_put (SM 17) (SM 1) c j)) 20 fun _ => nI (c + j)) 17 (fb_put (SM 17) (SM 1) c (j + 1)) 20 0 = nI (c + j) by simp [sa_eq], nI_1, ps_st _ _ _ _ _ _ (by decide)]
      exact ih (j + 1) (by omega) (by omega)
    · obtain rfl : j = 8 := by omega
      rw [if_pos (show (8 : Int32) ≤ nI 8 from by decide)]
theorem ps_back_v1 (fu : Nat) (SM : S32) (c : Nat) (hc : c + 8 ≤ 130) (h19 : SM 19 0 = 0) : ∀ (m j : Nat), j ≤ 8 → 9 ≤ m + j → f_X5_passes_v1_2 fu m (nI j) (sa (sa SM 1 (fb_put (SM 1) (fun k => SM 17 (c + k)) 0 j)) 20 (fun _ => nI (c + j))) = some (sa (sa SM 1 (fb_put (SM 1) (fun k => SM 17 (c + k)) 0 8)) 20 (fun _ => nI (c + 8))) := by
  intro m
  induction m with
  | zero => intro j h1 h2; exact absurd h2 (by omega)
  | succ m ih =>
    intro j h1 h2
    show s_X5_passes_v1_2 fu (f_X5_passes_v1_2 fu m) (nI j) _ = _
    unfold s_X5_passes_v1_2
    rcases Nat.lt_or_ge j 8 with hj | hj
    · rw [if_neg (i8 hj)]
      have e19 : sa (sa SM 1 (fb_put (SM 1) (fun k => SM 17 (c + k)) 0 j)) 20 (fun _ => nI (c + j)) 19 0 = SM 19 0 := by simp [sa_eq]
      have e20 : sa (sa SM 1 (fb_put (SM 1) (fun k => SM 17 (c + k)) 0 j)) 20 (fun _ => nI (c + j)) 20 0 = nI (c + j) := by simp [sa_eq]
      have e17 : sa (sa SM 1 (fb_put (SM 1) (fun k => SM 17 (c + k)) 0 j)) 20 (fun _ => nI (c + j)) 17 = SM 17 := by simp [sa_eq]
      have ef : sa (sa SM 1 (fb_put (SM 1) (fun k => SM 17 (c + k)) 0 j)) 20 (fun _ => nI (c + j)) 1 = fb_put (SM 1) (fun k => SM 17 (c + k)) 0 j := by simp [sa_eq]
      have up : upd (fb_put (SM 1) (fun k => SM 17 (c + k)) 0 j) j (SM 17 (c + j)) = fb_put (SM 1) (fun k => SM 17 (c + k)) 0 (j + 1) := by
        have := fb_put_succ (SM 1) (fun k => SM 17 (c + k)) 0 j
        rw [Nat.zero_add] at this
        exact this
      rw [e19, if_pos h19, e20, gd_in (by omega) (by omega), gd_in hj (by omega), e17, ef, nI_clamp (by omega), nI_clamp (by omega), up]
      unfold f_X5_passes_v1_42
      rw [nI_1, show sa (sa (sa SM 1 (fb_put (SM 1) (fun k => SM 17 (c + k)) 0 j)) 20 fun _ => nI (c + j)) 1 (fb_put (SM 1) (fun k => SM 17 (c + k)) 0 (j + 1)) 20 0 = nI (c + j) by simp [sa_eq], nI_1, ps_st _ _ _ _ _ _ (by decide)]
      exact ih (j + 1) (by omega) (by omega)
    · obtain rfl : j = 8 := by omega
      rw [if_pos (show (8 : Int32) ≤ nI 8 from by decide)]
theorem pk_v1 (fu : Nat) (hfu : 9 ≤ fu) (SM : S32) (c : Nat) (hc : c + 8 ≤ 130) (h19 : ¬ SM 19 0 = 0) (h20 : SM 20 = fun _ => nI c) : f_X5_passes_v1 fu SM = some (sa (sa SM 17 (fb_put (SM 17) (SM 1) c 8)) 20 (fun _ => nI (c + 8))) := by
  have h := ps_keep_v1 fu SM c hc h19 fu 0 (by omega) (by omega)
  rw [fb_put_0, Nat.add_zero] at h
  have e : sa (sa SM 17 (SM 17)) 20 (fun _ => nI c) = SM := by
    funext x
    simp only [sa_eq]
    by_cases h1 : x = 20
    · rw [if_pos h1, h1, h20]
    · rw [if_neg h1]
      by_cases h2 : x = 17
      · rw [if_pos h2, h2]
      · rw [if_neg h2]
  rw [e] at h
  exact h
theorem pb_v1 (fu : Nat) (hfu : 9 ≤ fu) (SM : S32) (c : Nat) (hc : c + 8 ≤ 130) (h19 : SM 19 0 = 0) (h20 : SM 20 = fun _ => nI c) : f_X5_passes_v1 fu SM = some (sa (sa SM 1 (fb_put (SM 1) (fun k => SM 17 (c + k)) 0 8)) 20 (fun _ => nI (c + 8))) := by
  have h := ps_back_v1 fu SM c hc h19 fu 0 (by omega) (by omega)
  rw [fb_put_0, Nat.add_zero] at h
  have e : sa (sa SM 1 (SM 1)) 20 (fun _ => nI c) = SM := by
    funext x
    simp only [sa_eq]
    by_cases h1 : x = 20
    · rw [if_pos h1, h1, h20]
    · rw [if_neg h1]
      by_cases h2 : x = 1
      · rw [if_pos h2, h2]
      · rw [if_neg h2]
  rw [e] at h
  exact h
theorem ps_keep_v2 (fu : Nat) (SM : S32) (c : Nat) (hc : c + 8 ≤ 130) (h19 : ¬ SM 19 0 = 0) : ∀ (m j : Nat), j ≤ 8 → 9 ≤ m + j → f_X5_passes_v2_2 fu m (nI j) (sa (sa SM 17 (fb_put (SM 17) (SM 2) c j)) 20 (fun _ => nI (c + j))) = some (sa (sa SM 17 (fb_put (SM 17) (SM 2) c 8)) 20 (fun _ => nI (c + 8))) := by
  intro m
  induction m with
  | zero => intro j h1 h2; exact absurd h2 (by omega)
  | succ m ih =>
    intro j h1 h2
    show s_X5_passes_v2_2 fu (f_X5_passes_v2_2 fu m) (nI j) _ = _
    unfold s_X5_passes_v2_2
    rcases Nat.lt_or_ge j 8 with hj | hj
    · rw [if_neg (i8 hj)]
      have e19 : sa (sa SM 17 (fb_put (SM 17) (SM 2) c j)) 20 (fun _ => nI (c + j)) 19 0 = SM 19 0 := by simp [sa_eq]
      have e20 : sa (sa SM 17 (fb_put (SM 17) (SM 2) c j)) 20 (fun _ => nI (c + j)) 20 0 = nI (c + j) := by simp [sa_eq]
      have e17 : sa (sa SM 17 (fb_put (SM 17) (SM 2) c j)) 20 (fun _ => nI (c + j)) 17 = fb_put (SM 17) (SM 2) c j := by simp [sa_eq]
      have ef : sa (sa SM 17 (fb_put (SM 17) (SM 2) c j)) 20 (fun _ => nI (c + j)) 2 = SM 2 := by simp [sa_eq]
      rw [e19, if_neg h19, gd_in hj (by omega), e20, gd_in (by omega) (by omega), e17, ef, nI_clamp (by omega), nI_clamp (by omega), fb_put_succ]
      unfold f_X5_passes_v2_42
      rw [nI_1, show sa (sa (sa SM 17 (fb_put (SM 17) (SM 2) c j)) 20 fun _ => nI (c + j)) 17 (fb_put (SM 17) (SM 2) c (j + 1)) 20 0 = nI (c + j) by simp [sa_eq], nI_1, ps_st _ _ _ _ _ _ (by decide)]
      exact ih (j + 1) (by omega) (by omega)
    · obtain rfl : j = 8 := by omega
      rw [if_pos (show (8 : Int32) ≤ nI 8 from by decide)]
theorem ps_back_v2 (fu : Nat) (SM : S32) (c : Nat) (hc : c + 8 ≤ 130) (h19 : SM 19 0 = 0) : ∀ (m j : Nat), j ≤ 8 → 9 ≤ m + j → f_X5_passes_v2_2 fu m (nI j) (sa (sa SM 2 (fb_put (SM 2) (fun k => SM 17 (c + k)) 0 j)) 20 (fun _ => nI (c + j))) = some (sa (sa SM 2 (fb_put (SM 2) (fun k => SM 17 (c + k)) 0 8)) 20 (fun _ => nI (c + 8))) := by
  intro m
  induction m with
  | zero => intro j h1 h2; exact absurd h2 (by omega)
  | succ m ih =>
    intro j h1 h2
    show s_X5_passes_v2_2 fu (f_X5_passes_v2_2 fu m) (nI j) _ = _
    unfold s_X5_passes_v2_2
    rcases Nat.lt_or_ge j 8 with hj | hj
    · rw [if_neg (i8 hj)]
      have e19 : sa (sa SM 2 (fb_put (SM 2) (fun k => SM 17 (c + k)) 0 j)) 20 (fun _ => nI (c + j)) 19 0 = SM 19 0 := by simp [sa_eq]
      have e20 : sa (sa SM 2 (fb_put (SM 2) (fun k => SM 17 (c + k)) 0 j)) 20 (fun _ => nI (c + j)) 20 0 = nI (c + j) := by simp [sa_eq]
      have e17 : sa (sa SM 2 (fb_put (SM 2) (fun k => SM 17 (c + k)) 0 j)) 20 (fun _ => nI (c + j)) 17 = SM 17 := by simp [sa_eq]
      have ef : sa (sa SM 2 (fb_put (SM 2) (fun k => SM 17 (c + k)) 0 j)) 20 (fun _ => nI (c + j)) 2 = fb_put (SM 2) (fun k => SM 17 (c + k)) 0 j := by simp [sa_eq]
      have up : upd (fb_put (SM 2) (fun k => SM 17 (c + k)) 0 j) j (SM 17 (c + j)) = fb_put (SM 2) (fun k => SM 17 (c + k)) 0 (j + 1) := by
        have := fb_put_succ (SM 2) (fun k => SM 17 (c + k)) 0 j
        rw [Nat.zero_add] at this
        exact this
      rw [e19, if_pos h19, e20, gd_in (by omega) (by omega), gd_in hj (by omega), e17, ef, nI_clamp (by omega), nI_clamp (by omega), up]
      unfold f_X5_passes_v2_42
      rw [nI_1, show sa (sa (sa SM 2 (fb_put (SM 2) (fun k => SM 17 (c + k)) 0 j)) 20 fun _ => nI (c + j)) 2 (fb_put (SM 2) (fun k => SM 17 (c + k)) 0 (j + 1)) 20 0 = nI (c + j) by simp [sa_eq], nI_1, ps_st _ _ _ _ _ _ (by decide)]
      exact ih (j + 1) (by omega) (by omega)
    · obtain rfl : j = 8 := by omega
      rw [if_pos (show (8 : Int32) ≤ nI 8 from by decide)]
theorem pk_v2 (fu : Nat) (hfu : 9 ≤ fu) (SM : S32) (c : Nat) (hc : c + 8 ≤ 130) (h19 : ¬ SM 19 0 = 0) (h20 : SM 20 = fun _ => nI c) : f_X5_passes_v2 fu SM = some (sa (sa SM 17 (fb_put (SM 17) (SM 2) c 8)) 20 (fun _ => nI (c + 8))) := by
  have h := ps_keep_v2 fu SM c hc h19 fu 0 (by omega) (by omega)
  rw [fb_put_0, Nat.add_zero] at h
  have e : sa (sa SM 17 (SM 17)) 20 (fun _ => nI c) = SM := by
    funext x
    simp only [sa_eq]
    by_cases h1 : x = 20
    · rw [if_pos h1, h1, h20]
    · rw [if_neg h1]
      by_cases h2 : x = 17
      · rw [if_pos h2, h2]
      · rw [if_neg h2]
  rw [e] at h
  exact h
theorem pb_v2 (fu : Nat) (hfu : 9 ≤ fu) (SM : S32) (c : Nat) (hc : c + 8 ≤ 130) (h19 : SM 19 0 = 0) (h20 : SM 20 = fun _ => nI c) : f_X5_passes_v2 fu SM = some (sa (sa SM 2 (fb_put (SM 2) (fun k => SM 17 (c + k)) 0 8)) 20 (fun _ => nI (c + 8))) := by
  have h := ps_back_v2 fu SM c hc h19 fu 0 (by omega) (by omega)
  rw [fb_put_0, Nat.add_zero] at h
  have e : sa (sa SM 2 (SM 2)) 20 (fun _ => nI c) = SM := by
    funext x
    simp only [sa_eq]
    by_cases h1 : x = 20
    · rw [if_pos h1, h1, h20]
    · rw [if_neg h1]
      by_cases h2 : x = 2
      · rw [if_pos h2, h2]
      · rw [if_neg h2]
  rw [e] at h
  exact h
theorem ps_keep_v3 (fu : Nat) (SM : S32) (c : Nat) (hc : c + 8 ≤ 130) (h19 : ¬ SM 19 0 = 0) : ∀ (m j : Nat), j ≤ 8 → 9 ≤ m + j → f_X5_passes_v3_2 fu m (nI j) (sa (sa SM 17 (fb_put (SM 17) (SM 3) c j)) 20 (fun _ => nI (c + j))) = some (sa (sa SM 17 (fb_put (SM 17) (SM 3) c 8)) 20 (fun _ => nI (c + 8))) := by
  intro m
  induction m with
  | zero => intro j h1 h2; exact absurd h2 (by omega)
  | succ m ih =>
    intro j h1 h2
    show s_X5_passes_v3_2 fu (f_X5_passes_v3_2 fu m) (nI j) _ = _
    unfold s_X5_passes_v3_2
    rcases Nat.lt_or_ge j 8 with hj | hj
    · rw [if_neg (i8 hj)]
      have e19 : sa (sa SM 17 (fb_put (SM 17) (SM 3) c j)) 20 (fun _ => nI (c + j)) 19 0 = SM 19 0 := by simp [sa_eq]
      have e20 : sa (sa SM 17 (fb_put (SM 17) (SM 3) c j)) 20 (fun _ => nI (c + j)) 20 0 = nI (c + j) := by simp [sa_eq]
      have e17 : sa (sa SM 17 (fb_put (SM 17) (SM 3) c j)) 20 (fun _ => nI (c + j)) 17 = fb_put (SM 17) (SM 3) c j := by simp [sa_eq]
      have ef : sa (sa SM 17 (fb_put (SM 17) (SM 3) c j)) 20 (fun _ => nI (c + j)) 3 = SM 3 := by simp [sa_eq]
      rw [e19, if_neg h19, gd_in hj (by omega), e20, gd_in (by omega) (by omega), e17, ef, nI_clamp (by omega), nI_clamp (by omega), fb_put_succ]
      unfold f_X5_passes_v3_42
      rw [nI_1, show sa (sa (sa SM 17 (fb_put (SM 17) (SM 3) c j)) 20 fun _ => nI (c + j)) 17 (fb_put (SM 17) (SM 3) c (j + 1)) 20 0 = nI (c + j) by simp [sa_eq], nI_1, ps_st _ _ _ _ _ _ (by decide)]
      exact ih (j + 1) (by omega) (by omega)
    · obtain rfl : j = 8 := by omega
      rw [if_pos (show (8 : Int32) ≤ nI 8 from by decide)]
theorem ps_back_v3 (fu : Nat) (SM : S32) (c : Nat) (hc : c + 8 ≤ 130) (h19 : SM 19 0 = 0) : ∀ (m j : Nat), j ≤ 8 → 9 ≤ m + j → f_X5_passes_v3_2 fu m (nI j) (sa (sa SM 3 (fb_put (SM 3) (fun k => SM 17 (c + k)) 0 j)) 20 (fun _ => nI (c + j))) = some (sa (sa SM 3 (fb_put (SM 3) (fun k => SM 17 (c + k)) 0 8)) 20 (fun _ => nI (c + 8))) := by
  intro m
  induction m with
  | zero => intro j h1 h2; exact absurd h2 (by omega)
  | succ m ih =>
    intro j h1 h2
    show s_X5_passes_v3_2 fu (f_X5_passes_v3_2 fu m) (nI j) _ = _
    unfold s_X5_passes_v3_2
    rcases Nat.lt_or_ge j 8 with hj | hj
    · rw [if_neg (i8 hj)]
      have e19 : sa (sa SM 3 (fb_put (SM 3) (fun k => SM 17 (c + k)) 0 j)) 20 (fun _ => nI (c + j)) 19 0 = SM 19 0 := by simp [sa_eq]
      have e20 : sa (sa SM 3 (fb_put (SM 3) (fun k => SM 17 (c + k)) 0 j)) 20 (fun _ => nI (c + j)) 20 0 = nI (c + j) := by simp [sa_eq]
      have e17 : sa (sa SM 3 (fb_put (SM 3) (fun k => SM 17 (c + k)) 0 j)) 20 (fun _ => nI (c + j)) 17 = SM 17 := by simp [sa_eq]
      have ef : sa (sa SM 3 (fb_put (SM 3) (fun k => SM 17 (c + k)) 0 j)) 20 (fun _ => nI (c + j)) 3 = fb_put (SM 3) (fun k => SM 17 (c + k)) 0 j := by simp [sa_eq]
      have up : upd (fb_put (SM 3) (fun k => SM 17 (c + k)) 0 j) j (SM 17 (c + j)) = fb_put (SM 3) (fun k => SM 17 (c + k)) 0 (j + 1) := by
        have := fb_put_succ (SM 3) (fun k => SM 17 (c + k)) 0 j
        rw [Nat.zero_add] at this
        exact this
      rw [e19, if_pos h19, e20, gd_in (by omega) (by omega), gd_in hj (by omega), e17, ef, nI_clamp (by omega), nI_clamp (by omega), up]
      unfold f_X5_passes_v3_42
      rw [nI_1, show sa (sa (sa SM 3 (fb_put (SM 3) (fun k => SM 17 (c + k)) 0 j)) 20 fun _ => nI (c + j)) 3 (fb_put (SM 3) (fun k => SM 17 (c + k)) 0 (j + 1)) 20 0 = nI (c + j) by simp [sa_eq], nI_1, ps_st _ _ _ _ _ _ (by decide)]
      exact ih (j + 1) (by omega) (by omega)
    · obtain rfl : j = 8 := by omega
      rw [if_pos (show (8 : Int32) ≤ nI 8 from by decide)]
theorem pk_v3 (fu : Nat) (hfu : 9 ≤ fu) (SM : S32) (c : Nat) (hc : c + 8 ≤ 130) (h19 : ¬ SM 19 0 = 0) (h20 : SM 20 = fun _ => nI c) : f_X5_passes_v3 fu SM = some (sa (sa SM 17 (fb_put (SM 17) (SM 3) c 8)) 20 (fun _ => nI (c + 8))) := by
  have h := ps_keep_v3 fu SM c hc h19 fu 0 (by omega) (by omega)
  rw [fb_put_0, Nat.add_zero] at h
  have e : sa (sa SM 17 (SM 17)) 20 (fun _ => nI c) = SM := by
    funext x
    simp only [sa_eq]
    by_cases h1 : x = 20
    · rw [if_pos h1, h1, h20]
    · rw [if_neg h1]
      by_cases h2 : x = 17
      · rw [if_pos h2, h2]
      · rw [if_neg h2]
  rw [e] at h
  exact h
theorem pb_v3 (fu : Nat) (hfu : 9 ≤ fu) (SM : S32) (c : Nat) (hc : c + 8 ≤ 130) (h19 : SM 19 0 = 0) (h20 : SM 20 = fun _ => nI c) : f_X5_passes_v3 fu SM = some (sa (sa SM 3 (fb_put (SM 3) (fun k => SM 17 (c + k)) 0 8)) 20 (fun _ => nI (c + 8))) := by
  have h := ps_back_v3 fu SM c hc h19 fu 0 (by omega) (by omega)
  rw [fb_put_0, Nat.add_zero] at h
  have e : sa (sa SM 3 (SM 3)) 20 (fun _ => nI c) = SM := by
    funext x
    simp only [sa_eq]
    by_cases h1 : x = 20
    · rw [if_pos h1, h1, h20]
    · rw [if_neg h1]
      by_cases h2 : x = 3
      · rw [if_pos h2, h2]
      · rw [if_neg h2]
  rw [e] at h
  exact h
theorem ps_keep_v4 (fu : Nat) (SM : S32) (c : Nat) (hc : c + 8 ≤ 130) (h19 : ¬ SM 19 0 = 0) : ∀ (m j : Nat), j ≤ 8 → 9 ≤ m + j → f_X5_passes_v4_2 fu m (nI j) (sa (sa SM 17 (fb_put (SM 17) (SM 4) c j)) 20 (fun _ => nI (c + j))) = some (sa (sa SM 17 (fb_put (SM 17) (SM 4) c 8)) 20 (fun _ => nI (c + 8))) := by
  intro m
  induction m with
  | zero => intro j h1 h2; exact absurd h2 (by omega)
  | succ m ih =>
    intro j h1 h2
    show s_X5_passes_v4_2 fu (f_X5_passes_v4_2 fu m) (nI j) _ = _
    unfold s_X5_passes_v4_2
    rcases Nat.lt_or_ge j 8 with hj | hj
    · rw [if_neg (i8 hj)]
      have e19 : sa (sa SM 17 (fb_put (SM 17) (SM 4) c j)) 20 (fun _ => nI (c + j)) 19 0 = SM 19 0 := by simp [sa_eq]
      have e20 : sa (sa SM 17 (fb_put (SM 17) (SM 4) c j)) 20 (fun _ => nI (c + j)) 20 0 = nI (c + j) := by simp [sa_eq]
      have e17 : sa (sa SM 17 (fb_put (SM 17) (SM 4) c j)) 20 (fun _ => nI (c + j)) 17 = fb_put (SM 17) (SM 4) c j := by simp [sa_eq]
      have ef : sa (sa SM 17 (fb_put (SM 17) (SM 4) c j)) 20 (fun _ => nI (c + j)) 4 = SM 4 := by simp [sa_eq]
      rw [e19, if_neg h19, gd_in hj (by omega), e20, gd_in (by omega) (by omega), e17, ef, nI_clamp (by omega), nI_clamp (by omega), fb_put_succ]
      unfold f_X5_passes_v4_42
      rw [nI_1, show sa (sa (sa SM 17 (fb_put (SM 17) (SM 4) c j)) 20 fun _ => nI (c + j)) 17 (fb_put (SM 17) (SM 4) c (j + 1)) 20 0 = nI (c + j) by simp [sa_eq], nI_1, ps_st _ _ _ _ _ _ (by decide)]
      exact ih (j + 1) (by omega) (by omega)
    · obtain rfl : j = 8 := by omega
      rw [if_pos (show (8 : Int32) ≤ nI 8 from by decide)]
theorem ps_back_v4 (fu : Nat) (SM : S32) (c : Nat) (hc : c + 8 ≤ 130) (h19 : SM 19 0 = 0) : ∀ (m j : Nat), j ≤ 8 → 9 ≤ m + j → f_X5_passes_v4_2 fu m (nI j) (sa (sa SM 4 (fb_put (SM 4) (fun k => SM 17 (c + k)) 0 j)) 20 (fun _ => nI (c + j))) = some (sa (sa SM 4 (fb_put (SM 4) (fun k => SM 17 (c + k)) 0 8)) 20 (fun _ => nI (c + 8))) := by
  intro m
  induction m with
  | zero => intro j h1 h2; exact absurd h2 (by omega)
  | succ m ih =>
    intro j h1 h2
    show s_X5_passes_v4_2 fu (f_X5_passes_v4_2 fu m) (nI j) _ = _
    unfold s_X5_passes_v4_2
    rcases Nat.lt_or_ge j 8 with hj | hj
    · rw [if_neg (i8 hj)]
      have e19 : sa (sa SM 4 (fb_put (SM 4) (fun k => SM 17 (c + k)) 0 j)) 20 (fun _ => nI (c + j)) 19 0 = SM 19 0 := by simp [sa_eq]
      have e20 : sa (sa SM 4 (fb_put (SM 4) (fun k => SM 17 (c + k)) 0 j)) 20 (fun _ => nI (c + j)) 20 0 = nI (c + j) := by simp [sa_eq]
      have e17 : sa (sa SM 4 (fb_put (SM 4) (fun k => SM 17 (c + k)) 0 j)) 20 (fun _ => nI (c + j)) 17 = SM 17 := by simp [sa_eq]
      have ef : sa (sa SM 4 (fb_put (SM 4) (fun k => SM 17 (c + k)) 0 j)) 20 (fun _ => nI (c + j)) 4 = fb_put (SM 4) (fun k => SM 17 (c + k)) 0 j := by simp [sa_eq]
      have up : upd (fb_put (SM 4) (fun k => SM 17 (c + k)) 0 j) j (SM 17 (c + j)) = fb_put (SM 4) (fun k => SM 17 (c + k)) 0 (j + 1) := by
        have := fb_put_succ (SM 4) (fun k => SM 17 (c + k)) 0 j
        rw [Nat.zero_add] at this
        exact this
      rw [e19, if_pos h19, e20, gd_in (by omega) (by omega), gd_in hj (by omega), e17, ef, nI_clamp (by omega), nI_clamp (by omega), up]
      unfold f_X5_passes_v4_42
      rw [nI_1, show sa (sa (sa SM 4 (fb_put (SM 4) (fun k => SM 17 (c + k)) 0 j)) 20 fun _ => nI (c + j)) 4 (fb_put (SM 4) (fun k => SM 17 (c + k)) 0 (j + 1)) 20 0 = nI (c + j) by simp [sa_eq], nI_1, ps_st _ _ _ _ _ _ (by decide)]
      exact ih (j + 1) (by omega) (by omega)
    · obtain rfl : j = 8 := by omega
      rw [if_pos (show (8 : Int32) ≤ nI 8 from by decide)]
theorem pk_v4 (fu : Nat) (hfu : 9 ≤ fu) (SM : S32) (c : Nat) (hc : c + 8 ≤ 130) (h19 : ¬ SM 19 0 = 0) (h20 : SM 20 = fun _ => nI c) : f_X5_passes_v4 fu SM = some (sa (sa SM 17 (fb_put (SM 17) (SM 4) c 8)) 20 (fun _ => nI (c + 8))) := by
  have h := ps_keep_v4 fu SM c hc h19 fu 0 (by omega) (by omega)
  rw [fb_put_0, Nat.add_zero] at h
  have e : sa (sa SM 17 (SM 17)) 20 (fun _ => nI c) = SM := by
    funext x
    simp only [sa_eq]
    by_cases h1 : x = 20
    · rw [if_pos h1, h1, h20]
    · rw [if_neg h1]
      by_cases h2 : x = 17
      · rw [if_pos h2, h2]
      · rw [if_neg h2]
  rw [e] at h
  exact h
theorem pb_v4 (fu : Nat) (hfu : 9 ≤ fu) (SM : S32) (c : Nat) (hc : c + 8 ≤ 130) (h19 : SM 19 0 = 0) (h20 : SM 20 = fun _ => nI c) : f_X5_passes_v4 fu SM = some (sa (sa SM 4 (fb_put (SM 4) (fun k => SM 17 (c + k)) 0 8)) 20 (fun _ => nI (c + 8))) := by
  have h := ps_back_v4 fu SM c hc h19 fu 0 (by omega) (by omega)
  rw [fb_put_0, Nat.add_zero] at h
  have e : sa (sa SM 4 (SM 4)) 20 (fun _ => nI c) = SM := by
    funext x
    simp only [sa_eq]
    by_cases h1 : x = 20
    · rw [if_pos h1, h1, h20]
    · rw [if_neg h1]
      by_cases h2 : x = 4
      · rw [if_pos h2, h2]
      · rw [if_neg h2]
  rw [e] at h
  exact h
theorem ps_keep_v5 (fu : Nat) (SM : S32) (c : Nat) (hc : c + 8 ≤ 130) (h19 : ¬ SM 19 0 = 0) : ∀ (m j : Nat), j ≤ 8 → 9 ≤ m + j → f_X5_passes_v5_2 fu m (nI j) (sa (sa SM 17 (fb_put (SM 17) (SM 5) c j)) 20 (fun _ => nI (c + j))) = some (sa (sa SM 17 (fb_put (SM 17) (SM 5) c 8)) 20 (fun _ => nI (c + 8))) := by
  intro m
  induction m with
  | zero => intro j h1 h2; exact absurd h2 (by omega)
  | succ m ih =>
    intro j h1 h2
    show s_X5_passes_v5_2 fu (f_X5_passes_v5_2 fu m) (nI j) _ = _
    unfold s_X5_passes_v5_2
    rcases Nat.lt_or_ge j 8 with hj | hj
    · rw [if_neg (i8 hj)]
      have e19 : sa (sa SM 17 (fb_put (SM 17) (SM 5) c j)) 20 (fun _ => nI (c + j)) 19 0 = SM 19 0 := by simp [sa_eq]
      have e20 : sa (sa SM 17 (fb_put (SM 17) (SM 5) c j)) 20 (fun _ => nI (c + j)) 20 0 = nI (c + j) := by simp [sa_eq]
      have e17 : sa (sa SM 17 (fb_put (SM 17) (SM 5) c j)) 20 (fun _ => nI (c + j)) 17 = fb_put (SM 17) (SM 5) c j := by simp [sa_eq]
      have ef : sa (sa SM 17 (fb_put (SM 17) (SM 5) c j)) 20 (fun _ => nI (c + j)) 5 = SM 5 := by simp [sa_eq]
      rw [e19, if_neg h19, gd_in hj (by omega), e20, gd_in (by omega) (by omega), e17, ef, nI_clamp (by omega), nI_clamp (by omega), fb_put_succ]
      unfold f_X5_passes_v5_42
      rw [nI_1, show sa (sa (sa SM 17 (fb_put (SM 17) (SM 5) c j)) 20 fun _ => nI (c + j)) 17 (fb_put (SM 17) (SM 5) c (j + 1)) 20 0 = nI (c + j) by simp [sa_eq], nI_1, ps_st _ _ _ _ _ _ (by decide)]
      exact ih (j + 1) (by omega) (by omega)
    · obtain rfl : j = 8 := by omega
      rw [if_pos (show (8 : Int32) ≤ nI 8 from by decide)]
theorem ps_back_v5 (fu : Nat) (SM : S32) (c : Nat) (hc : c + 8 ≤ 130) (h19 : SM 19 0 = 0) : ∀ (m j : Nat), j ≤ 8 → 9 ≤ m + j → f_X5_passes_v5_2 fu m (nI j) (sa (sa SM 5 (fb_put (SM 5) (fun k => SM 17 (c + k)) 0 j)) 20 (fun _ => nI (c + j))) = some (sa (sa SM 5 (fb_put (SM 5) (fun k => SM 17 (c + k)) 0 8)) 20 (fun _ => nI (c + 8))) := by
  intro m
  induction m with
  | zero => intro j h1 h2; exact absurd h2 (by omega)
  | succ m ih =>
    intro j h1 h2
    show s_X5_passes_v5_2 fu (f_X5_passes_v5_2 fu m) (nI j) _ = _
    unfold s_X5_passes_v5_2
    rcases Nat.lt_or_ge j 8 with hj | hj
    · rw [if_neg (i8 hj)]
      have e19 : sa (sa SM 5 (fb_put (SM 5) (fun k => SM 17 (c + k)) 0 j)) 20 (fun _ => nI (c + j)) 19 0 = SM 19 0 := by simp [sa_eq]
      have e20 : sa (sa SM 5 (fb_put (SM 5) (fun k => SM 17 (c + k)) 0 j)) 20 (fun _ => nI (c + j)) 20 0 = nI (c + j) := by simp [sa_eq]
      have e17 : sa (sa SM 5 (fb_put (SM 5) (fun k => SM 17 (c + k)) 0 j)) 20 (fun _ => nI (c + j)) 17 = SM 17 := by simp [sa_eq]
      have ef : sa (sa SM 5 (fb_put (SM 5) (fun k => SM 17 (c + k)) 0 j)) 20 (fun _ => nI (c + j)) 5 = fb_put (SM 5) (fun k => SM 17 (c + k)) 0 j := by simp [sa_eq]
      have up : upd (fb_put (SM 5) (fun k => SM 17 (c + k)) 0 j) j (SM 17 (c + j)) = fb_put (SM 5) (fun k => SM 17 (c + k)) 0 (j + 1) := by
        have := fb_put_succ (SM 5) (fun k => SM 17 (c + k)) 0 j
        rw [Nat.zero_add] at this
        exact this
      rw [e19, if_pos h19, e20, gd_in (by omega) (by omega), gd_in hj (by omega), e17, ef, nI_clamp (by omega), nI_clamp (by omega), up]
      unfold f_X5_passes_v5_42
      rw [nI_1, show sa (sa (sa SM 5 (fb_put (SM 5) (fun k => SM 17 (c + k)) 0 j)) 20 fun _ => nI (c + j)) 5 (fb_put (SM 5) (fun k => SM 17 (c + k)) 0 (j + 1)) 20 0 = nI (c + j) by simp [sa_eq], nI_1, ps_st _ _ _ _ _ _ (by decide)]
      exact ih (j + 1) (by omega) (by omega)
    · obtain rfl : j = 8 := by omega
      rw [if_pos (show (8 : Int32) ≤ nI 8 from by decide)]
theorem pk_v5 (fu : Nat) (hfu : 9 ≤ fu) (SM : S32) (c : Nat) (hc : c + 8 ≤ 130) (h19 : ¬ SM 19 0 = 0) (h20 : SM 20 = fun _ => nI c) : f_X5_passes_v5 fu SM = some (sa (sa SM 17 (fb_put (SM 17) (SM 5) c 8)) 20 (fun _ => nI (c + 8))) := by
  have h := ps_keep_v5 fu SM c hc h19 fu 0 (by omega) (by omega)
  rw [fb_put_0, Nat.add_zero] at h
  have e : sa (sa SM 17 (SM 17)) 20 (fun _ => nI c) = SM := by
    funext x
    simp only [sa_eq]
    by_cases h1 : x = 20
    · rw [if_pos h1, h1, h20]
    · rw [if_neg h1]
      by_cases h2 : x = 17
      · rw [if_pos h2, h2]
      · rw [if_neg h2]
  rw [e] at h
  exact h
theorem pb_v5 (fu : Nat) (hfu : 9 ≤ fu) (SM : S32) (c : Nat) (hc : c + 8 ≤ 130) (h19 : SM 19 0 = 0) (h20 : SM 20 = fun _ => nI c) : f_X5_passes_v5 fu SM = some (sa (sa SM 5 (fb_put (SM 5) (fun k => SM 17 (c + k)) 0 8)) 20 (fun _ => nI (c + 8))) := by
  have h := ps_back_v5 fu SM c hc h19 fu 0 (by omega) (by omega)
  rw [fb_put_0, Nat.add_zero] at h
  have e : sa (sa SM 5 (SM 5)) 20 (fun _ => nI c) = SM := by
    funext x
    simp only [sa_eq]
    by_cases h1 : x = 20
    · rw [if_pos h1, h1, h20]
    · rw [if_neg h1]
      by_cases h2 : x = 5
      · rw [if_pos h2, h2]
      · rw [if_neg h2]
  rw [e] at h
  exact h
theorem po_k (fu : Nat) (SM : S32) (c : Nat) (hc : c < 130) (h19 : ¬ SM 19 0 = 0) (h20 : SM 20 = fun _ => nI c) (v : Int32) : f_X5_passOne fu SM v = some (v, sa (sa SM 17 (upd (SM 17) c v)) 20 (fun _ => nI (c + 1))) := by
  unfold f_X5_passOne f_X5_passOne_20 f_X5_passOne_38
  rw [if_neg h19, if_neg h19, h20, gd_in hc (by omega), nI_clamp (by omega)]
  rw [show sa SM 17 (upd (SM 17) c v) 20 0 = nI c by simp [sa_eq, h20], nI_1]
theorem po_b (fu : Nat) (SM : S32) (c : Nat) (hc : c < 130) (h19 : SM 19 0 = 0) (h20 : SM 20 = fun _ => nI c) (v : Int32) : f_X5_passOne fu SM v = some (SM 17 c, sa SM 20 (fun _ => nI (c + 1))) := by
  unfold f_X5_passOne f_X5_passOne_20 f_X5_passOne_38
  rw [if_pos h19, if_pos h19, h20, gd_in hc (by omega), nI_clamp (by omega), nI_1]
/-- what is put away of a state, place by place -/
def im (SM : S32) (k : Nat) : Int32 := if k < 40 then SM (1 + k / 8) (k % 8) else if k = 40 then SM 6 0 else SM 7 0
theorem im8 (SM : S32) (a i : Nat) (h1 : 1 ≤ a) (h5 : a ≤ 5) (hi : i < 8) : im SM (8 * (a - 1) + i) = SM a i := by
  unfold im
  rw [if_pos (by omega), show 1 + (8 * (a - 1) + i) / 8 = a by omega, show (8 * (a - 1) + i) % 8 = i by omega]
theorem im40 (SM : S32) : im SM 40 = SM 6 0 := by simp [im]
theorem im41 (SM : S32) : im SM 41 = SM 7 0 := by simp [im]

theorem im_c (SM : S32) (k : Nat) (hk : k < 42) : im SM k = if k < 8 then SM 1 k else if k < 16 then SM 2 (k - 8) else if k < 24 then SM 3 (k - 16) else if k < 32 then SM 4 (k - 24) else if k < 40 then SM 5 (k - 32) else if k = 40 then SM 6 0 else SM 7 0 := by
  unfold im
  by_cases a0 : k < 8
  · rw [if_pos (by omega), if_pos a0, show 1 + k / 8 = 1 by omega, show k % 8 = k by omega]
  rw [if_neg a0]
  by_cases a1 : k < 16
  · rw [if_pos (by omega), if_pos a1, show 1 + k / 8 = 2 by omega, show k % 8 = k - 8 by omega]
  rw [if_neg a1]
  by_cases a2 : k < 24
  · rw [if_pos (by omega), if_pos a2, show 1 + k / 8 = 3 by omega, show k % 8 = k - 16 by omega]
  rw [if_neg a2]
  by_cases a3 : k < 32
  · rw [if_pos (by omega), if_pos a3, show 1 + k / 8 = 4 by omega, show k % 8 = k - 24 by omega]
  rw [if_neg a3]
  by_cases a4 : k < 40
  · rw [if_pos (by omega), if_pos a4, show 1 + k / 8 = 5 by omega, show k % 8 = k - 32 by omega]
  rw [if_neg a4, if_neg a4]
theorem ch17 (F g1 g2 g3 g4 g5 : Nat → Int32) (c : Nat) (v6 v7 : Int32) (k : Nat) (hk : k < 42) : upd (upd (fb_put (fb_put (fb_put (fb_put (fb_put F g1 c 8) g2 (c + 8) 8) g3 (c + 8 + 8) 8) g4 (c + 8 + 8 + 8) 8) g5 (c + 8 + 8 + 8 + 8) 8) (c + 8 + 8 + 8 + 8 + 8) v6) (c + 8 + 8 + 8 + 8 + 8 + 1) v7 (c + k) = if k < 8 then g1 k else if k < 16 then g2 (k - 8) else if k < 24 then g3 (k - 16) else if k < 32 then g4 (k - 24) else if k < 40 then g5 (k - 32) else if k = 40 then v6 else v7 := by
  simp only [upd, fb_put]
  repeat' split
  all_goals first | omega | rfl | (congr 1; omega)
theorem ch17o (F g1 g2 g3 g4 g5 : Nat → Int32) (c : Nat) (v6 v7 : Int32) (i : Nat) (hi : i < c ∨ c + 42 ≤ i) : upd (upd (fb_put (fb_put (fb_put (fb_put (fb_put F g1 c 8) g2 (c + 8) 8) g3 (c + 8 + 8) 8) g4 (c + 8 + 8 + 8) 8) g5 (c + 8 + 8 + 8 + 8) 8) (c + 8 + 8 + 8 + 8 + 8) v6) (c + 8 + 8 + 8 + 8 + 8 + 1) v7 i = F i := by
  simp only [upd, fb_put]
  repeat' split
  all_goals first | omega | rfl
theorem pa_keep (fu : Nat) (hfu : 9 ≤ fu) (SM : S32) (w : Nat) (hw : w = 0 ∨ w = 1 ∨ w = 2) : ∃ T : S32, f_X5_passesAll fu SM (nI w) 1 = some T ∧ (∀ a, a ≠ 6 → a ≠ 7 → a ≠ 17 → a ≠ 19 → a ≠ 20 → T a = SM a) ∧ T 6 0 = SM 6 0 ∧ T 7 0 = SM 7 0 ∧ (∀ k, k < 42 → T 17 (43 * w + k) = im SM k) ∧ ∀ i, (i < 43 * w ∨ 43 * w + 42 ≤ i) → T 17 i = SM 17 i := by
  have e43 : (43 : Int32) * nI w = nI (43 * w) := by rcases hw with rfl | rfl | rfl <;> rfl
  have hw2 : 43 * w ≤ 86 := by omega
  generalize hc : 43 * w = c at *
  unfold f_X5_passesAll
  rw [e43]
  unfold bb
  rw [if_pos (Or.inr rfl)]
  rw [pk_v1 fu hfu _ c (by omega) (by simp [sa_eq]) (by simp [sa_eq])]
  simp only [bd]
  rw [pk_v2 fu hfu _ (c + 8) (by omega) (by simp [sa_eq]) (by simp [sa_eq])]
  simp only []
  rw [pk_v3 fu hfu _ (c + 8 + 8) (by omega) (by simp [sa_eq]) (by simp [sa_eq])]
  simp only []
  rw [pk_v4 fu hfu _ (c + 8 + 8 + 8) (by omega) (by simp [sa_eq]) (by simp [sa_eq])]
  simp only []
  rw [pk_v5 fu hfu _ (c + 8 + 8 + 8 + 8) (by omega) (by simp [sa_eq]) (by simp [sa_eq])]
  simp only []
  rw [po_k fu _ (c + 8 + 8 + 8 + 8 + 8) (by omega) (by simp [sa_eq]) (by simp [sa_eq])]
  simp only []
  rw [po_k fu _ (c + 8 + 8 + 8 + 8 + 8 + 1) (by omega) (by simp [sa_eq]) (by simp [sa_eq])]
  simp only []
  refine ⟨_, rfl, ?_, ?_, ?_, ?_, ?_⟩
  · intro a h6 h7 h17 h19 h20
    simp [sa_eq, h6, h7, h17, h19, h20]
  · simp [sa_eq]
  · simp [sa_eq]
  · intro k hk
    have h := ch17 (SM 17) (SM 1) (SM 2) (SM 3) (SM 4) (SM 5) c (SM 6 0) (SM 7 0) k hk
    simp [sa_eq] at h ⊢
    rw [h, im_c SM k hk]
  · intro i hi
    have h := ch17o (SM 17) (SM 1) (SM 2) (SM 3) (SM 4) (SM 5) c (SM 6 0) (SM 7 0) i hi
    simp [sa_eq] at h ⊢
    exact h

theorem pa_back (fu : Nat) (hfu : 9 ≤ fu) (SM : S32) (w : Nat) (hw : w = 0 ∨ w = 1 ∨ w = 2) : ∃ T : S32, f_X5_passesAll fu SM (nI w) 0 = some T ∧ (∀ a, a ≠ 1 → a ≠ 2 → a ≠ 3 → a ≠ 4 → a ≠ 5 → a ≠ 6 → a ≠ 7 → a ≠ 19 → a ≠ 20 → T a = SM a) ∧ (∀ k, k < 42 → im T k = SM 17 (43 * w + k)) := by
  have e43 : (43 : Int32) * nI w = nI (43 * w) := by rcases hw with rfl | rfl | rfl <;> rfl
  have hw2 : 43 * w ≤ 86 := by omega
  generalize hc : 43 * w = c at *
  unfold f_X5_passesAll
  rw [e43]
  unfold bb
  rw [if_pos (Or.inl rfl)]
  rw [pb_v1 fu hfu _ c (by omega) (by simp [sa_eq]) (by simp [sa_eq])]
  simp only [bd]
  rw [pb_v2 fu hfu _ (c + 8) (by omega) (by simp [sa_eq]) (by simp [sa_eq])]
  simp only []
  rw [pb_v3 fu hfu _ (c + 8 + 8) (by omega) (by simp [sa_eq]) (by simp [sa_eq])]
  simp only []
  rw [pb_v4 fu hfu _ (c + 8 + 8 + 8) (by omega) (by simp [sa_eq]) (by simp [sa_eq])]
  simp only []
  rw [pb_v5 fu hfu _ (c + 8 + 8 + 8 + 8) (by omega) (by simp [sa_eq]) (by simp [sa_eq])]
  simp only []
  rw [po_b fu _ (c + 8 + 8 + 8 + 8 + 8) (by omega) (by simp [sa_eq]) (by simp [sa_eq])]
  simp only []
  rw [po_b fu _ (c + 8 + 8 + 8 + 8 + 8 + 1) (by omega) (by simp [sa_eq]) (by simp [sa_eq])]
  simp only []
  refine ⟨_, rfl, ?_, ?_⟩
  · intro a h1 h2 h3 h4 h5 h6 h7 h19 h20
    simp [sa_eq, h1, h2, h3, h4, h5, h6, h7, h19, h20]
  · intro k hk
    rw [im_c _ k hk]
    simp [sa_eq, fb_put]
    repeat' split
    all_goals first | omega | rfl | (congr 1; omega)

