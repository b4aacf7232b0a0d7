/-! the class plays: statement by statement -/
def PLY (fu : Nat) (SL : S32) (n s a : Nat) (ST : S32) (r : Int32 × S32) : Prop := ∀ m, n < m + a → f_X2_playOn_4 fu SL m (nI s) (nI a) ST = some r
theorem po_skip {fu : Nat} {SL : S32} {T : Nat → Nat} {n : Nat} (hT : TX T n) (hL : LX SL T n) {s a : Nat} {ST : S32} {r : Int32 × S32} (ha : a < n) (h : T a ≠ 59) (hp : PLY fu SL n s (a + 1) ST r) : PLY fu SL n s a ST r := by
  intro m hm
  have hn := hT.1
  obtain ⟨m, rfl⟩ : ∃ m', m = m' + 1 := ⟨m - 1, by omega⟩
  show s_X2_playOn_4 fu (f_X2_playOn_4 fu SL m) SL (nI s) (nI a) ST = some r
  unfold s_X2_playOn_4
  rw [hL.1, if_neg (nI_ge ha (by omega)), c_let hT hL fu (by omega)]
  simp only [bd]
  rw [if_neg (show ¬ chI (T a) = 59 from fun w => h ((ch_eq (c := 59) (TX_le hT _) (by omega)).mp w)), nI_1]
  exact hp m (by omega)
theorem po_end {fu : Nat} {SL : S32} {T : Nat → Nat} {n : Nat} (hT : TX T n) (hL : LX SL T n) {s : Nat} {ST : S32} : PLY fu SL n s n ST (-1, ST) := by
  intro m hm
  have hn := hT.1
  obtain ⟨m, rfl⟩ : ∃ m', m = m' + 1 := ⟨m - 1, by omega⟩
  show s_X2_playOn_4 fu (f_X2_playOn_4 fu SL m) SL (nI s) (nI n) ST = some (-1, ST)
  unfold s_X2_playOn_4
  rw [hL.1, if_pos (nI_le (Nat.le_refl _) (by omega))]
theorem po_skips {fu : Nat} {SL : S32} {T : Nat → Nat} {n : Nat} (hT : TX T n) (hL : LX SL T n) {s p e : Nat} {ST : S32} {r : Int32 × S32} (he : e ≤ n) (hn : ∀ j, p ≤ j → j < e → T j ≠ 59) (h : PLY fu SL n s e ST r) : ∀ d, d ≤ e - p → PLY fu SL n s (e - d) ST r
  | 0, _ => h
  | d + 1, hd => by
    have ih := po_skips hT hL he hn h d (by omega)
    refine po_skip hT hL (a := e - (d + 1)) (by omega) (hn _ (by omega) (by omega)) ?_
    rw [show e - (d + 1) + 1 = e - d by omega]
    exact ih
/-- the statement at p, played by the class -/
def pl (fu : Nat) (SL : S32) (T : Nat → Nat) (ST : S32) (p : Nat) : Option (Int32 × S32) := if T p = 108 then f_X2_playLodger fu SL ST (nI p) (nI (fe T p)) else if T p = 119 then f_X2_playWish fu SL ST (nI p) else f_X2_playYear fu SL ST (nI p) (nI (fe T p))
theorem po_semi {fu : Nat} {SL : S32} {T : Nat → Nat} {n : Nat} (hT : TX T n) (hL : LX SL T n) {p : Nat} {ST S2 : S32} {b : Int32} {r : Int32 × S32} (hp : p < n) (he : fe T p < n) (h59 : T (fe T p) = 59) (hb : pl fu SL T ST p = some (b, S2)) (h : if b = 0 then r = (nI p, S2) else PLY fu SL n (fe T p + 1) (fe T p + 1) S2 r) : PLY fu SL n p (fe T p) ST r := by
  intro m hm
  have hn := hT.1
  obtain ⟨m, rfl⟩ : ∃ m', m = m' + 1 := ⟨m - 1, by omega⟩
  show s_X2_playOn_4 fu (f_X2_playOn_4 fu SL m) SL (nI p) (nI (fe T p)) ST = some r
  unfold s_X2_playOn_4 f_X2_playOn_88
  rw [hL.1, if_neg (nI_ge he (by omega)), c_let hT hL fu (by omega)]
  simp only [bd]
  rw [if_pos (show chI (T (fe T p)) = 59 from (ch_eq (c := 59) (TX_le hT _) (by omega)).mpr h59), c_let hT hL fu (by omega)]
  simp only []
  have hc1 : chI (T p) = 108 ↔ T p = 108 := ch_eq (c := 108) (TX_le hT p) (by omega)
  have hc2 : chI (T p) = 119 ↔ T p = 119 := ch_eq (c := 119) (TX_le hT p) (by omega)
  have fin : (if b = 0 then some (nI p, S2) else f_X2_playOn_4 fu SL m (nI (fe T p) + 1) (nI (fe T p) + 1) S2) = some r := by
    by_cases q : b = 0
    · rw [if_pos q] at h ⊢
      rw [h]
    · rw [if_neg q] at h ⊢
      rw [nI_1]
      exact h m (by omega)
  unfold pl at hb
  by_cases h1 : T p = 108
  · rw [if_pos h1] at hb
    rw [if_pos (hc1.mpr h1), hb]
    exact fin
  · rw [if_neg h1] at hb
    rw [if_neg (fun w => h1 (hc1.mp w))]
    by_cases h2 : T p = 119
    · rw [if_pos h2] at hb
      rw [if_pos (hc2.mpr h2), hb]
      exact fin
    · rw [if_neg h2] at hb
      rw [if_neg (fun w => h2 (hc2.mp w)), hb]
      exact fin
/-! what a good statement is made of -/
theorem kd_59 : ¬ kd 59 < 6 := by decide
theorem dg_59 : dg 59 = false := by decide
theorem gs_l {T : Nat → Nat} {p : Nat} (h : gs T p = true) (h1 : T p = 108) : kd (T (p + 1)) < 6 ∧ dg (T (p + 2)) = true ∧ T (cm T p) = 44 ∧ dg (T (cm T p + 1)) = true ∧ T (cm T p + 2) = 59 ∧ fe T p = cm T p + 2 ∧ (cm T p = p + 3 ∨ (cm T p = p + 4 ∧ dg (T (p + 3)) = true)) := by
  unfold gs at h
  rw [if_pos h1] at h
  simp only [Bool.and_eq_true, decide_eq_true_eq] at h
  refine ⟨h.1.1.1.1, h.1.1.1.2, h.1.1.2, h.1.2, h.2, ?_, ?_⟩
  · unfold fe
    rw [if_pos h1, if_pos h.1.1.1.1, if_pos h.1.1.1.2, if_pos h.1.1.2, if_pos h.1.2]
  · unfold cm
    by_cases q : dg (T (p + 3)) = true
    · rw [if_pos q]; exact Or.inr ⟨rfl, q⟩
    · rw [if_neg q]; exact Or.inl rfl
theorem gs_w {T : Nat → Nat} {p : Nat} (h : gs T p = true) (h1 : T p = 119) : dg (T (p + 1)) = true ∧ dg (T (p + 2)) = true ∧ T (p + 3) = 59 ∧ fe T p = p + 3 := by
  unfold gs at h
  rw [if_neg (by omega), if_pos h1] at h
  simp only [Bool.and_eq_true, decide_eq_true_eq] at h
  refine ⟨h.1.1, h.1.2, h.2, ?_⟩
  unfold fe
  rw [if_neg (by omega), if_pos h1, if_pos h.1.1, if_pos h.1.2]
theorem gs_y {T : Nat → Nat} {p : Nat} (h : gs T p = true) (h1 : T p = 121) : T (p + 1 + yk T p) = 59 ∧ fe T p = p + 1 + yk T p := by
  unfold gs at h
  rw [if_neg (by omega), if_neg (by omega), if_pos h1] at h
  simp only [decide_eq_true_eq] at h
  refine ⟨h, ?_⟩
  unfold fe
  rw [if_neg (by omega), if_neg (by omega), if_pos h1]
theorem gs_3 {T : Nat → Nat} {p : Nat} (h : gs T p = true) : T p = 108 ∨ T p = 119 ∨ T p = 121 := by
  by_cases h1 : T p = 108
  · exact Or.inl h1
  · by_cases h2 : T p = 119
    · exact Or.inr (Or.inl h2)
    · by_cases h3 : T p = 121
      · exact Or.inr (Or.inr h3)
      · unfold gs at h
        rw [if_neg h1, if_neg h2, if_neg h3] at h
        cases h
theorem gs_59 {T : Nat → Nat} {p : Nat} (h : gs T p = true) : T (fe T p) = 59 ∧ p < fe T p ∧ fe T p ≤ p + 9 ∧ ∀ j, p ≤ j → j < fe T p → T j ≠ 59 := by
  rcases gs_3 h with h1 | h1 | h1
  · obtain ⟨q1, q2, q3, q4, q5, q6, q7⟩ := gs_l h h1
    rw [q6]
    refine ⟨q5, by omega, by omega, fun j j1 j2 w => ?_⟩
    rcases (show j = p ∨ j = p + 1 ∨ j = p + 2 ∨ j = cm T p ∨ j = cm T p + 1 ∨ (j = p + 3 ∧ cm T p = p + 4) by omega) with r | r | r | r | r | ⟨r, r2⟩
    · subst r; omega
    · subst r; rw [w] at q1; exact kd_59 q1
    · subst r; rw [w, dg_59] at q2; cases q2
    · subst r; omega
    · subst r; rw [w, dg_59] at q4; cases q4
    · subst r
      rcases q7 with q7 | ⟨-, q7⟩
      · omega
      · rw [w, dg_59] at q7; cases q7
  · obtain ⟨q1, q2, q3, q4⟩ := gs_w h h1
    rw [q4]
    refine ⟨q3, by omega, by omega, fun j j1 j2 w => ?_⟩
    rcases (show j = p ∨ j = p + 1 ∨ j = p + 2 by omega) with r | r | r
    · subst r; omega
    · subst r; rw [w, dg_59] at q1; cases q1
    · subst r; rw [w, dg_59] at q2; cases q2
  · obtain ⟨q1, q2⟩ := gs_y h h1
    have h8 := yk_le T p
    rw [q2]
    refine ⟨q1, by omega, by omega, fun j j1 j2 w => ?_⟩
    rcases (show j = p ∨ ∃ i, i < yk T p ∧ j = p + 1 + i from by
      rcases Nat.eq_or_lt_of_le j1 with r | r
      · exact Or.inl r.symm
      · exact Or.inr ⟨j - (p + 1), by omega, by omega⟩) with r | ⟨i, r1, r2⟩
    · subst r; omega
    · have := yk_dg r1
      rw [← r2, w, dg_59] at this; cases this
theorem gs_n {T : Nat → Nat} {n p : Nat} (hT : TX T n) (h : gs T p = true) : fe T p < n := TX_lt hT (by have := (gs_59 h).1; omega)
/-! what playing keeps -/
def GA (A : AB) (ST M : S32) : Prop := OKA A ∧ A 7 0 ≤ 99 ∧ CT ST A ∧ MT M A ∧ DM (M 1) (M 2) (A 6 0)
def FP (M N : S32) : Prop := ∀ a, (a = 0 ∨ 8 ≤ a) → a ≠ 21 → N a = M a
def PB (o1 o2 : Option (Int32 × S32)) (M : S32) : Prop := (∃ S2, o1 = some (0, S2) ∧ o2 = some (0, M)) ∨ ∃ S2 M2 A2, o1 = some (1, S2) ∧ o2 = some (1, M2) ∧ GA A2 S2 M2 ∧ FP M M2
theorem d3 : ∀ v, v < 257 → dg v = true → ((0 : Int32) * 10 + (chI v - 48)) = nI (v - 48) := by decide +kernel
theorem d4 : ∀ a, a < 10 → ∀ v, v < 257 → dg v = true → (nI a * 10 + (chI v - 48)) = nI (10 * a + (v - 48)) := by decide +kernel
theorem d5 : ∀ v, v < 257 → dg v = true → chI v - 48 = nI (v - 48) := by decide +kernel
theorem c_digit {SL : S32} {T : Nat → Nat} {n : Nat} (hT : TX T n) (hL : LX SL T n) (fu : Nat) {i : Nat} (h : dg (T i) = true) : f_X2_digitAt fu SL (nI i) = some (nI (T i - 48)) := by
  have hi := TX_dg hT h
  have hn := hT.1
  unfold f_X2_digitAt
  rw [c_let hT hL fu (by omega)]
  simp only [bd]
  rw [d5 _ (by have := TX_le hT i; omega) h]
theorem ag_le {T : Nat → Nat} {p : Nat} (h : dg (T (p + 2)) = true) : ag T p ≤ 99 := by
  have h1 := dg_ne h
  unfold ag
  by_cases q : dg (T (p + 3)) = true
  · have h2 := dg_ne q
    rw [if_pos q]; omega
  · rw [if_neg q]; omega
theorem kd_le {v : Nat} (h : kd v < 6) : kd v ≤ 5 := by omega
theorem c_agestep {fu : Nat} {SL : S32} {T : Nat → Nat} {n : Nat} (hT : TX T n) (hL : LX SL T n) {ST : S32} {c q : Nat} {k a b : Int32} (m : Nat) (hc : c < 900) (hq : q < c) (h : dg (T q) = true) (hv : (a * 10 + nI (T q - 48)) = b) : f_X2_playLodger_20 fu SL (m + 1) (nI (c + 2)) k a (nI q) ST = f_X2_playLodger_20 fu SL m (nI (c + 2)) k b (nI (q + 1)) ST := by
  show s_X2_playLodger_20 fu (f_X2_playLodger_20 fu SL m) SL (nI (c + 2)) k a (nI q) ST = _
  unfold s_X2_playLodger_20
  rw [show nI (c + 2) - (2 : Int32) = nI c by rw [show (2 : Int32) = nI 2 from rfl, pk_sub (by omega)]; rfl, if_neg (nI_ge hq (by omega)), c_digit hT hL fu h]
  simp only [bd]
  rw [hv, nI_1]
theorem c_ageend {fu : Nat} {SL : S32} {ST : S32} {c : Nat} {k a : Int32} (m : Nat) (hc : c < 900) : f_X2_playLodger_20 fu SL (m + 1) (nI (c + 2)) k a (nI c) ST = f_X2_playLodger_48 fu SL (nI (c + 2)) k a ST := by
  show s_X2_playLodger_20 fu (f_X2_playLodger_20 fu SL m) SL (nI (c + 2)) k a (nI c) ST = _
  unfold s_X2_playLodger_20
  rw [show nI (c + 2) - (2 : Int32) = nI c by rw [show (2 : Int32) = nI 2 from rfl, pk_sub (by omega)]; rfl, if_pos (nI_le (Nat.le_refl _) (by omega))]
theorem c_playL {fu : Nat} (hfu : 9 ≤ fu) {SL : S32} {T : Nat → Nat} {n : Nat} (hT : TX T n) (hL : LX SL T n) {ST : S32} {p : Nat} (hp : p < n) (hg : gs T p = true) (h1 : T p = 108) : f_X2_playLodger fu SL ST (nI p) (nI (fe T p)) = f_X2_playLodger_48 fu SL (nI (cm T p + 2)) (nI (kd (T (p + 1)))) (nI (ag T p)) ST := by
  obtain ⟨q1, q2, q3, q4, q5, q6, q7⟩ := gs_l hg h1
  have hn := hT.1
  have g2 := dg_ne q2
  have hcb : cm T p ≤ p + 4 := by omega
  unfold f_X2_playLodger
  rw [nI_1, c_let hT hL fu (by omega)]
  simp only [bd]
  rw [c_kd fu (TX_le hT _), q6, show nI p + (2 : Int32) = nI (p + 2) from nI_add p 2]
  simp only []
  rw [if_pos q1, show f_X2_playLodger_20 fu SL fu = f_X2_playLodger_20 fu SL ((fu - 3) + 1 + 1 + 1) by rw [show fu - 3 + 1 + 1 + 1 = fu by omega]]
  rw [c_agestep hT hL (b := nI (T (p + 2) - 48)) _ (by omega) (by omega) q2 (by rw [← d5 _ (by omega) q2]; exact (d3 _ (by omega) q2).trans (d5 _ (by omega) q2).symm)]
  rcases q7 with q7 | ⟨q7, q8⟩
  · rw [show p + 2 + 1 = cm T p by omega, c_ageend _ (by omega)]
    have hx : ¬ dg (T (p + 3)) = true := fun w => by
      rw [← q7, q3] at w; exact absurd w (by decide)
    unfold ag
    rw [if_neg hx]
  · have g3 := dg_ne q8
    rw [c_agestep hT hL (b := nI (ag T p)) _ (by omega) (by omega) (show dg (T (p + 2 + 1)) = true from q8) (by
      unfold ag
      rw [if_pos q8, ← d4 (T (p + 2) - 48) (by omega) (T (p + 3)) (by omega) q8, d5 _ (by omega) q8]), show p + 2 + 1 + 1 = cm T p by omega, c_ageend _ (by omega)]
theorem both_L {fu : Nat} (hfu : 9 ≤ fu) {SL : S32} {T : Nat → Nat} {n : Nat} (hT : TX T n) (hL : LX SL T n) {ST M : S32} {A : AB} {p k : Nat} (hp : p < n) (hg : gs T p = true) (h1 : T p = 108) (hG : GA A ST M) (hk : k < 40) (hD : SD T p k M) : PB (pl fu SL T ST p) (f_X5_comes fu M (nI k)) M := by
  obtain ⟨hA, h99, hC, hM, hDM⟩ := hG
  obtain ⟨q1, q2, q3, q4, q5, q6, q7⟩ := gs_l hg h1
  obtain ⟨s1, s2, s3, -, -⟩ := hD
  obtain ⟨t1, t2, t3⟩ := s3 h1
  have g4 := dg_ne q4
  have hl9 : T (cm T p + 1) - 48 ≤ 9 := by omega
  have ha9 := ag_le q2
  have hk5 := kd_le q1
  unfold pl
  rw [if_pos h1, c_playL hfu hT hL hp hg h1]
  unfold f_X2_playLodger_48 f_X5_comes
  rw [c_could hA hC fu hfu hk5 ha9, show nI (cm T p + 2) - (1 : Int32) = nI (cm T p + 1) from nI_pred (cm T p + 1), c_digit hT hL fu q4]
  rw [gd_in hk (by omega), nI_clamp (by omega), s1, if_pos (show nI (T p) = (108 : Int32) by rw [h1]; rfl), show (3 : Int32) * nI k = nI (3 * k) from pk_mul 3 k, nI_1, show nI (3 * k) + (2 : Int32) = nI (3 * k + 2) from nI_add _ 2, gd_in (show 3 * k < 120 by omega) (by omega), gd_in (show 3 * k + 1 < 120 by omega) (by omega), gd_in (show 3 * k + 2 < 120 by omega) (by omega), nI_clamp (by omega), nI_clamp (by omega), nI_clamp (by omega), t1, t2, t3]
  simp only [bd]
  rcases m_comesIn hA hM hDM fu hfu (l := T (cm T p + 1) - 48) hk5 ha9 with ⟨h8, w8, N2, g1, g2, g3, g4⟩ | ⟨g1, g2⟩
  · obtain ⟨T2, u1, u2⟩ := c_admit hA hC fu (l := T (cm T p + 1) - 48) h8 hk5 ha9
    rw [if_pos (show A 6 0 < 8 ∧ wh A (ef (kd (T (p + 1))) (ag T p)) = 8 from ⟨h8, w8⟩), if_neg n10, u1, g1]
    right
    refine ⟨T2, N2, nw A (kd (T (p + 1))) (ag T p) (T (cm T p + 1) - 48), ?_, rfl, ⟨OKA_nw hA h8 hk5 ha9 hl9 w8, by rw [nw_7]; exact h99, u2, g2, g3⟩, fun a ha _ => g4 a (by omega) (by omega) (by omega) (by omega) (by omega) (by omega)⟩
    simp only []
    rw [if_neg (nI_nn (by omega))]
  · rw [if_neg g1, if_pos rfl, g2]
    exact Or.inl ⟨ST, rfl, rfl⟩
theorem both_W {fu : Nat} (hfu : 9 ≤ fu) {SL : S32} {T : Nat → Nat} {n : Nat} (hT : TX T n) (hL : LX SL T n) {ST M : S32} {A : AB} {p k : Nat} (hg : gs T p = true) (h1 : T p = 119) (hG : GA A ST M) (hk : k < 40) (hD : SD T p k M) : PB (pl fu SL T ST p) (f_X5_comes fu M (nI k)) M := by
  obtain ⟨hA, h99, hC, hM, hDM⟩ := hG
  obtain ⟨q1, q2, q3, q4⟩ := gs_w hg h1
  obtain ⟨s1, s2, -, s3, -⟩ := hD
  obtain ⟨t1, t2⟩ := s3 h1
  have g1 := dg_ne q1
  have g2 := dg_ne q2
  unfold pl
  rw [if_neg (by omega), if_pos h1]
  unfold f_X2_playWish f_X5_comes
  rw [nI_1, c_digit hT hL fu q1, show nI p + (2 : Int32) = nI (p + 2) from nI_add p 2, c_digit hT hL fu q2]
  rw [gd_in hk (by omega), nI_clamp (by omega), s1, if_neg (show ¬ nI (T p) = (108 : Int32) by rw [h1]; decide), gd_in hk (by omega), if_neg (show ¬ nI (T p) = (121 : Int32) by rw [h1]; decide), show (3 : Int32) * nI k = nI (3 * k) from pk_mul 3 k, nI_1, gd_in (show 3 * k < 120 by omega) (by omega), gd_in (show 3 * k < 120 by omega) (by omega), gd_in (show 3 * k + 1 < 120 by omega) (by omega), nI_clamp (show 3 * k < 2 ^ 31 by omega), nI_clamp (show 3 * k + 1 < 2 ^ 31 by omega), t1, t2]
  simp only [bd]
  rcases alive_any hA hC hM fu (nI (T (p + 1) - 48)) with ⟨i, hi, e, ha, e1, e2⟩ | ⟨e1, e2⟩
  · obtain rfl : T (p + 1) - 48 = i := (nI_eq (by omega) (by omega)).mp e
    rw [e1, e2]
    simp only []
    rw [if_neg n10, if_neg n10, gd_in hi (by omega), gd_in hi (by omega), nI_clamp (by omega)]
    right
    have ew : nI (T (p + 2) - 48) = wC (T (p + 2) - 48) := by unfold wC; rw [if_pos (by omega)]
    have er : nI (T (p + 2) - 48) = wR (T (p + 2) - 48) := by unfold wR; rw [if_pos (by omega)]
    refine ⟨_, _, ws A (T (p + 1) - 48) (T (p + 2) - 48), rfl, rfl, ⟨OKA_ws hA (by omega), h99, ?_, ?_, hDM⟩, fun a ha _ => sa_ne (by omega)⟩
    · rw [ew]; exact CT_ws hC
    · rw [er]; exact MT_ws hM
  · rw [e1, e2]
    simp only []
    rw [if_pos trivial, if_pos trivial]
    exact Or.inl ⟨ST, rfl, rfl⟩
theorem inA_or {A : AB} (hA : OKA A) {s i : Nat} (hs : inA A s) (h : al A i = true) : inA A (s ||| 2 ^ i) := by
  have h8 := al_lt8 hA h
  refine ⟨Nat.or_lt_two_pow (n := 8) hs.1 (Nat.pow_lt_pow_right (by omega) h8), fun j hj => ?_⟩
  rw [fb_bit_set, Bool.or_eq_true, decide_eq_true_eq] at hj
  rcases hj with q | q
  · exact hs.2 j q
  · rw [q]; exact h
theorem yd {fu : Nat} (hfu : 9 ≤ fu) {SL : S32} {T : Nat → Nat} {n : Nat} (hT : TX T n) (hL : LX SL T n) {ST M : S32} {A : AB} {p k e : Nat} (hG : GA A ST M) (hk : k < 40) (h13 : M 13 k = nI e) (h8 : ∀ i, i < n → M 8 i = nI (T i)) (he : e ≤ n) (hd : ∀ j, p + 1 ≤ j → j < e → dg (T j) = true) : ∀ d q s, q + d = e → p + 1 ≤ q → inA A s → (∀ m1 m2, d < m1 → d < m2 → f_X2_playYear_8 fu SL m1 (nI e) (nI s) (nI q) ST = some (0, ST) ∧ f_X5_comesYear_9 fu m2 (nI k) (nI s) (nI q) M = some (0, M)) ∨ ∃ s', inA A s' ∧ ∀ m1 m2, d < m1 → d < m2 → f_X2_playYear_8 fu SL m1 (nI e) (nI s) (nI q) ST = f_X2_playYear_58 fu SL (nI s') ST ∧ f_X5_comesYear_9 fu m2 (nI k) (nI s) (nI q) M = f_X5_comesYear_64 fu (nI s') M := by
  obtain ⟨hA, h99, hC, hM, hDM⟩ := hG
  have hn := hT.1
  intro d
  induction d with
  | zero =>
    intro q s hq hpq hs
    right
    refine ⟨s, hs, fun m1 m2 h1 h2 => ?_⟩
    obtain ⟨m1, rfl⟩ : ∃ m', m1 = m' + 1 := ⟨m1 - 1, by omega⟩
    obtain ⟨m2, rfl⟩ : ∃ m', m2 = m' + 1 := ⟨m2 - 1, by omega⟩
    obtain rfl : q = e := by omega
    constructor
    · show s_X2_playYear_8 fu (f_X2_playYear_8 fu SL m1) SL _ _ _ _ = _
      unfold s_X2_playYear_8
      rw [if_pos (nI_le (Nat.le_refl _) (by omega))]
    · show s_X5_comesYear_9 fu (f_X5_comesYear_9 fu m2) _ _ _ _ = _
      unfold s_X5_comesYear_9
      rw [gd_in hk (by omega), nI_clamp (by omega), h13, if_pos (nI_le (Nat.le_refl _) (by omega))]
  | succ d ih =>
    intro q s hq hpq hs
    have hqe : q < e := by omega
    have hg := hd q hpq hqe
    have hgn := dg_ne hg
    have hv := TX_le hT q
    have ec : ∀ m, f_X2_playYear_8 fu SL (m + 1) (nI e) (nI s) (nI q) ST = s_X2_playYear_8 fu (f_X2_playYear_8 fu SL m) SL (nI e) (nI s) (nI q) ST := fun _ => rfl
    have em : ∀ m, f_X5_comesYear_9 fu (m + 1) (nI k) (nI s) (nI q) M = s_X5_comesYear_9 fu (f_X5_comesYear_9 fu m) (nI k) (nI s) (nI q) M := fun _ => rfl
    have e48 : nI (T q) - (48 : Int32) = nI (T q - 48) := by rw [show (48 : Int32) = nI 48 from rfl, pk_sub (by omega)]
    have fc : ∀ m, f_X2_playYear_8 fu SL (m + 1) (nI e) (nI s) (nI q) ST = bd (f_X3_isAlive fu ST (nI (T q - 48))) (fun o_3 => if o_3 = (0 : Int32) then some ((0 : Int32), ST) else bd (f_X3_holds fu (nI s) (nI (T q - 48))) (fun o_5 => if o_5 = (0 : Int32) then f_X2_playYear_8 fu SL m (nI e) (nI s ||| ((1 : Int32) <<< (nI (T q - 48) &&& 31))) (nI (q + 1)) ST else some ((0 : Int32), ST))) := by
      intro m
      rw [ec]
      unfold s_X2_playYear_8
      rw [if_neg (nI_ge hqe (by omega)), c_digit hT hL fu hg, nI_1]
      rfl
    have fm : ∀ m, f_X5_comesYear_9 fu (m + 1) (nI k) (nI s) (nI q) M = bd (f_X5_isAlive fu M (nI (T q - 48))) (fun o_4 => if o_4 = (0 : Int32) then some ((0 : Int32), M) else if ((nI s >>> (nI (T q - 48) &&& 31)) &&& (1 : Int32)) = (1 : Int32) then some ((0 : Int32), M) else f_X5_comesYear_9 fu m (nI k) (nI s ||| ((1 : Int32) <<< (nI (T q - 48) &&& 31))) (nI (q + 1)) M) := by
      intro m
      rw [em]
      unfold s_X5_comesYear_9
      rw [gd_in hk (by omega), nI_clamp (show k < 2 ^ 31 by omega), h13, if_neg (nI_ge hqe (by omega)), gd_in (show q < 80 by omega) (by omega), nI_clamp (show q < 2 ^ 31 by omega), h8 q (by omega), e48, nI_1]
      rfl
    rcases alive_any hA hC hM fu (nI (T q - 48)) with ⟨i, hi, ei, ha, e1, e2⟩ | ⟨e1, e2⟩
    · obtain rfl : T q - 48 = i := (nI_eq (by omega) (by omega)).mp ei
      have hb := bit_get s hs.1 (T q - 48) hi
      have hh := holds_is fu hs.1 hi
      by_cases hbit : s.testBit (T q - 48) = true
      · left
        intro m1 m2 h1 h2
        obtain ⟨m1, rfl⟩ : ∃ m', m1 = m' + 1 := ⟨m1 - 1, by omega⟩
        obtain ⟨m2, rfl⟩ : ∃ m', m2 = m' + 1 := ⟨m2 - 1, by omega⟩
        rw [fc, fm, e1, e2, hh, hb, hbit]
        exact ⟨rfl, rfl⟩
      · have hbit : s.testBit (T q - 48) = false := by simpa using hbit
        have ho : nI s ||| ((1 : Int32) <<< (nI (T q - 48) &&& 31)) = nI (s ||| 2 ^ (T q - 48)) := by rw [bit_one _ (by omega), fa_or]
        have step : ∀ m, f_X2_playYear_8 fu SL (m + 1) (nI e) (nI s) (nI q) ST = f_X2_playYear_8 fu SL m (nI e) (nI (s ||| 2 ^ (T q - 48))) (nI (q + 1)) ST ∧ f_X5_comesYear_9 fu (m + 1) (nI k) (nI s) (nI q) M = f_X5_comesYear_9 fu m (nI k) (nI (s ||| 2 ^ (T q - 48))) (nI (q + 1)) M := by
          intro m
          rw [fc, fm, e1, e2, hh, hb, hbit, ho]
          exact ⟨rfl, rfl⟩
        rcases ih (q + 1) (s ||| 2 ^ (T q - 48)) (by omega) (by omega) (inA_or hA hs ha) with h | ⟨s', hs', h⟩
        · left
          intro m1 m2 h1 h2
          obtain ⟨m1, rfl⟩ : ∃ m', m1 = m' + 1 := ⟨m1 - 1, by omega⟩
          obtain ⟨m2, rfl⟩ : ∃ m', m2 = m' + 1 := ⟨m2 - 1, by omega⟩
          rw [(step m1).1, (step m2).2]
          exact h m1 m2 (by omega) (by omega)
        · right
          refine ⟨s', hs', fun m1 m2 h1 h2 => ?_⟩
          obtain ⟨m1, rfl⟩ : ∃ m', m1 = m' + 1 := ⟨m1 - 1, by omega⟩
          obtain ⟨m2, rfl⟩ : ∃ m', m2 = m' + 1 := ⟨m2 - 1, by omega⟩
          rw [(step m1).1, (step m2).2]
          exact h m1 m2 (by omega) (by omega)
    · left
      intro m1 m2 h1 h2
      obtain ⟨m1, rfl⟩ : ∃ m', m1 = m' + 1 := ⟨m1 - 1, by omega⟩
      obtain ⟨m2, rfl⟩ : ∃ m', m2 = m' + 1 := ⟨m2 - 1, by omega⟩
      rw [fc, fm, e1, e2]
      exact ⟨rfl, rfl⟩
theorem both_Y {fu : Nat} (hfu : 100 ≤ fu) {SL : S32} {T : Nat → Nat} {n : Nat} (hT : TX T n) (hL : LX SL T n) {ST M : S32} {A : AB} {p k : Nat} (hg : gs T p = true) (h1 : T p = 121) (hG : GA A ST M) (hk : k < 40) (hD : SD T p k M) (h8 : ∀ i, i < n → M 8 i = nI (T i)) : PB (pl fu SL T ST p) (f_X5_comes fu M (nI k)) M := by
  obtain ⟨hA, h99, hC, hM, hDM⟩ := id hG
  obtain ⟨q1, q2⟩ := gs_y hg h1
  obtain ⟨s1, s2, -, -, s3⟩ := hD
  obtain ⟨t1, t2⟩ := s3 h1
  have hn := hT.1
  have hen := gs_n hT hg
  have h8k := yk_le T p
  unfold pl
  rw [if_neg (by omega), if_neg (by omega)]
  unfold f_X2_playYear f_X5_comes f_X5_comesYear
  rw [nI_1, q2, gd_in hk (by omega), nI_clamp (by omega), s1, if_neg (show ¬ nI (T p) = (108 : Int32) by rw [h1]; decide), gd_in hk (by omega), if_pos (show nI (T p) = (121 : Int32) by rw [h1]; rfl), gd_in hk (by omega), t1]
  rcases yd (fu := fu) (by omega) hT hL (p := p) (e := p + 1 + yk T p) hG hk t2 h8 (by omega) (fun j j1 j2 => by
    have := yk_dg (T := T) (p := p) (j := j - (p + 1)) (by omega)
    rwa [show p + 1 + (j - (p + 1)) = j by omega] at this) (yk T p) (p + 1) 0 (by omega) (by omega) (inA_0 A) with h | ⟨s, hs, h⟩
  · obtain ⟨r1, r2⟩ := h fu fu (by omega) (by omega)
    rw [show f_X2_playYear_8 fu SL fu (nI (p + 1 + yk T p)) (0 : Int32) (nI (p + 1)) ST = _ from r1, show f_X5_comesYear_9 fu fu (nI k) (0 : Int32) (nI (p + 1)) M = _ from r2]
    exact Or.inl ⟨ST, rfl, rfl⟩
  · obtain ⟨r1, r2⟩ := h fu fu (by omega) (by omega)
    rw [show f_X2_playYear_8 fu SL fu (nI (p + 1 + yk T p)) (0 : Int32) (nI (p + 1)) ST = _ from r1, show f_X5_comesYear_9 fu fu (nI k) (0 : Int32) (nI (p + 1)) M = _ from r2]
    unfold f_X2_playYear_58 f_X5_comesYear_64
    rw [hC.2.1, hM.2.1]
    by_cases q : A 7 0 = 99
    · rw [if_neg (show ¬ nI (A 7 0) < (99 : Int32) by rw [q]; decide), if_pos (show nI (A 7 0) = (99 : Int32) by rw [q]; rfl)]
      exact Or.inl ⟨ST, rfl, rfl⟩
    · rw [if_pos (show nI (A 7 0) < (99 : Int32) from (nI_ltI (b := 99) (by omega) (by omega)).mpr (by omega)), if_neg (show ¬ nI (A 7 0) = (99 : Int32) from fun w => q ((nI_eq (b := 99) (by omega) (by omega)).mp w))]
      obtain ⟨T2, u1, u2⟩ := c_year hA hC fu (by omega) hs
      obtain ⟨N2, g1, g2, g3, g4⟩ := m_year hA hM fu (by omega) hs
      rw [u1, g1]
      right
      refine ⟨T2, N2, yr A s, rfl, rfl, ⟨OKA_yr hA hs, ?_, u2, g2, show DM (N2 1) (N2 2) (A 6 0) from DM_year (B := A) hDM (g3 1 (by decide) (by decide) (by decide) (by decide)) g4⟩, fun a ha h21 => g3 a (by omega) (by omega) (by omega) h21⟩
      show A 7 0 + 1 ≤ 99
      omega
theorem both {fu : Nat} (hfu : 100 ≤ fu) {SL : S32} {T : Nat → Nat} {n : Nat} (hT : TX T n) (hL : LX SL T n) {ST M : S32} {A : AB} {p k : Nat} (hp : p < n) (hg : gs T p = true) (hG : GA A ST M) (hk : k < 40) (hD : SD T p k M) (h8 : ∀ i, i < n → M 8 i = nI (T i)) : PB (pl fu SL T ST p) (f_X5_comes fu M (nI k)) M := by
  rcases gs_3 hg with h1 | h1 | h1
  · exact both_L (by omega) hT hL hp hg h1 hG hk hD
  · exact both_W (by omega) hT hL hg h1 hG hk hD
  · exact both_Y hfu hT hL hg h1 hG hk hD h8
