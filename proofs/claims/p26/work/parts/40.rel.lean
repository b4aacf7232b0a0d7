/-! what class and reference share between calls -/
def DM (f g : Nat → Int32) (n : Nat) : Prop := ∀ i, i < n → ∃ k a, k ≤ 5 ∧ a ≤ 99 ∧ f i = nI k ∧ g i = nI a
def RA (SN SM : S32) : Prop := ∃ A : AB, OKA A ∧ A 7 0 ≤ 99 ∧ CT SN A ∧ MT SM A ∧ DM (SM 1) (SM 2) (A 6 0)
def RRow (SV SM : S32) : Prop := ∃ r, r ≤ 8 ∧ SV 7 0 = nI r ∧ SM 23 0 = nI r ∧ ∀ i, i < r → ∃ v, v ≤ 10 ∧ SV 6 i = nI v ∧ SM 22 i = nI v
def RLet (SL SM : S32) : Prop := ∃ n, n ≤ 80 ∧ SL 1 0 = nI n ∧ SM 14 0 = nI n ∧ ∀ i, i < n → ∃ v, v ≤ 255 ∧ SL 0 i = nI v ∧ SM 8 i = nI v
def RRef (SV SM : S32) : Prop := ∀ i, 1 ≤ i → i ≤ 6 → SV 8 i = SM 0 i
def RIm (SV SK SM : S32) : Prop := (SV 3 0 = 0 ∧ SM 18 0 = 0) ∨ (SV 3 0 = 1 ∧ SM 18 0 = 1 ∧ ∃ A : AB, OKA A ∧ A 7 0 ≤ 99 ∧ CT SK A ∧ MTi (SM 17) A ∧ DM (SM 17) (fun i => SM 17 (8 + i)) (A 6 0))
def RR (SV SN SK SL SM : S32) : Prop := RA SN SM ∧ RRow SV SM ∧ RLet SL SM ∧ RRef SV SM ∧ RIm SV SK SM
theorem RA_fr {SN SM M2 : S32} (h : RA SN SM) (e : ∀ a, 1 ≤ a → a ≤ 7 → M2 a = SM a) : RA SN M2 := by
  obtain ⟨A, h1, h2, h3, h4, h5⟩ := h
  refine ⟨A, h1, h2, h3, MT_fr h4 e, ?_⟩
  rw [e 1 (by omega) (by omega), e 2 (by omega) (by omega)]
  exact h5
theorem RRow_fr {SV V2 SM M2 : S32} (h : RRow SV SM) (e6 : V2 6 = SV 6) (e7 : V2 7 = SV 7) (e22 : M2 22 = SM 22) (e23 : M2 23 = SM 23) : RRow V2 M2 := by
  unfold RRow at *
  rw [e6, e7, e22, e23]; exact h
theorem RLet_fr {SL SM M2 : S32} (h : RLet SL SM) (e8 : M2 8 = SM 8) (e14 : M2 14 = SM 14) : RLet SL M2 := by
  unfold RLet at *
  rw [e8, e14]; exact h
theorem RIm_fr {SV V2 SK SM M2 : S32} (h : RIm SV SK SM) (e3 : V2 3 = SV 3) (e18 : M2 18 = SM 18) (e17 : ∀ i, i < 42 → M2 17 i = SM 17 i) : RIm V2 SK M2 := by
  unfold RIm at *
  rw [e3, e18]
  rcases h with h | ⟨h1, h2, A, h3, h4, h5, ⟨h6, h7, h8⟩, h9⟩
  · exact Or.inl h
  · right
    have hn := h3.1
    refine ⟨h1, h2, A, h3, h4, h5, ⟨by rw [e17 40 (by omega)]; exact h6, by rw [e17 41 (by omega)]; exact h7, fun i hi => ?_⟩, fun i hi => ?_⟩
    · rw [e17 _ (by omega), e17 _ (by omega), e17 _ (by omega), e17 _ (by omega), e17 _ (by omega)]; exact h8 i hi
    · obtain ⟨k, a, q1, q2, q3, q4⟩ := h9 i hi
      exact ⟨k, a, q1, q2, by rw [e17 _ (by omega)]; exact q3, by show M2 17 (8 + i) = nI a; rw [e17 _ (by omega)]; exact q4⟩
/-- nothing of the shared changes but what is refused -/
theorem sa_ne {α : Type} {T : Nat → Nat → α} {a b : Nat} {f : Nat → α} (h : b ≠ a) : sa T a f b = T b := by rw [sa_eq, if_neg h]
theorem sa_at {α : Type} {T : Nat → Nat → α} {a : Nat} {f : Nat → α} : sa T a f a = f := by rw [sa_eq, if_pos rfl]
theorem ref_st {SV SN SK SL SM : S32} (h : RR SV SN SK SL SM) {k : Nat} : RR (sa SV 8 (upd (SV 8) k (SV 8 k + 1))) SN SK SL (sa SM 0 (upd (SM 0) k (SM 0 k + 1))) := by
  obtain ⟨h1, h2, h3, h4, h5⟩ := h
  refine ⟨RA_fr h1 (fun a b c => sa_ne (by omega)), RRow_fr h2 (sa_ne (by decide)) (sa_ne (by decide)) (sa_ne (by decide)) (sa_ne (by decide)), RLet_fr h3 (sa_ne (by decide)) (sa_ne (by decide)), ?_, RIm_fr h5 (sa_ne (by decide)) (sa_ne (by decide)) (fun i _ => by rw [sa_ne (by decide)])⟩
  intro i i1 i6
  rw [sa_at, sa_at]
  by_cases hik : i = k
  · subst hik
    rw [pk_us, pk_us, h4 i i1 i6]
  · rw [pk_un hik, pk_un hik]; exact h4 i i1 i6
theorem ref_k {SV SN SK SL SM : S32} (h : RR SV SN SK SL SM) (fu : Nat) {x : Int32} {k : Nat} (hx : -x = nI k) (h1 : 1 ≤ k) (h6 : k ≤ 6) : ∃ V M : S32, f_X4_refuse fu SV x = some (x, V) ∧ f_X5_no fu SM x = some (x, M) ∧ RR V SN SK SL M := by
  refine ⟨_, _, ?_, ?_, ref_st h (k := k)⟩
  · unfold f_X4_refuse
    rw [hx, if_neg (show ¬ nI k < (1 : Int32) from fun q => by have := (nI_ltI (b := 1) (by omega) (by omega)).mp q; omega), if_neg (show ¬ (6 : Int32) < nI k from fun q => by have := (nI_ltI (a := 6) (by omega) (by omega)).mp q; omega), gd_in (by omega) (by omega), gd_in (by omega) (by omega), nI_clamp (by omega)]
  · unfold f_X5_no
    rw [hx, gd_in (by omega) (by omega), gd_in (by omega) (by omega), nI_clamp (by omega)]
theorem refL_k {SV SN SK SL SM : S32} (h : RR SV SN SK SL SM) (fu : Nat) {x : Int32} {k : Nat} (hx : -x = nI k) (h1 : 1 ≤ k) (h6 : k ≤ 6) : ∃ (r : Int64) (V M : S32), f_X4_refuseLong fu SV x = some (r, V) ∧ f_X5_lowest fu SM x = some (r, M) ∧ RR V SN SK SL M := by
  obtain ⟨V, M, e1, e2, e3⟩ := ref_k h fu hx h1 h6
  refine ⟨(4000000000000000000 : Int64) - x.toInt64, V, M, ?_, ?_, e3⟩
  · unfold f_X4_refuseLong
    rw [e1]; rfl
  · unfold f_X5_no at e2
    unfold f_X5_lowest
    rw [hx, gd_in (by omega) (by omega), gd_in (by omega) (by omega), nI_clamp (by omega)] at e2 ⊢
    injection e2 with e2
    injection e2 with _ e2
    rw [e2]
theorem floor_any (fu : Nat) (x : Int32) : (∃ f, f ≤ 9 ∧ x = nI f ∧ f_X4_isFloor fu x = some 1 ∧ f_X5_isFloor fu x = some 1) ∨ (f_X4_isFloor fu x = some 0 ∧ f_X5_isFloor fu x = some 0 ∧ ¬ ∃ f, f ≤ 9 ∧ x = nI f) := by
  unfold f_X4_isFloor f_X5_isFloor
  by_cases h0 : x < 0
  · right
    rw [if_pos h0, if_pos h0]
    exact ⟨rfl, rfl, fun ⟨f, h1, h2⟩ => nI_nn (by omega) (h2 ▸ h0)⟩
  · rw [if_neg h0, if_neg h0]
    obtain ⟨j, hj, rfl⟩ := nI_of h0
    by_cases h9 : j ≤ 9
    · left
      refine ⟨j, h9, rfl, ?_, ?_⟩
      · rw [if_neg (show ¬ (9 : Int32) < nI j from fun q => by have := (nI_ltI (a := 9) (by omega) hj).mp q; omega)]
      · rw [if_neg (show ¬ (10 : Int32) ≤ nI j from fun q => by have := (nI_leI (a := 10) (by omega) hj).mp q; omega)]
    · right
      refine ⟨?_, ?_, fun ⟨f, h1, h2⟩ => h9 (by have := (nI_eq hj (by omega)).mp h2; omega)⟩
      · rw [if_pos (show (9 : Int32) < nI j from (nI_ltI (a := 9) (by omega) hj).mpr (by omega))]
      · rw [if_pos (show (10 : Int32) ≤ nI j from (nI_leI (a := 10) (by omega) hj).mpr (by omega))]
theorem kind_any (fu : Nat) (x : Int32) : (∃ k, k ≤ 5 ∧ x = nI k ∧ f_X4_isKind fu x = some 1 ∧ f_X5_isIn fu x 0 5 = some 1) ∨ (f_X4_isKind fu x = some 0 ∧ f_X5_isIn fu x 0 5 = some 0) := by
  unfold f_X4_isKind f_X5_isIn
  by_cases h0 : x < 0
  · right
    rw [if_pos h0, if_pos h0]
    exact ⟨rfl, rfl⟩
  · rw [if_neg h0, if_neg h0]
    obtain ⟨j, hj, rfl⟩ := nI_of h0
    by_cases h9 : j ≤ 5
    · left
      refine ⟨j, h9, rfl, ?_, ?_⟩
      · rw [if_neg (show ¬ (6 : Int32) ≤ nI j from fun q => by have := (nI_leI (a := 6) (by omega) hj).mp q; omega)]
      · rw [if_neg (show ¬ (5 : Int32) < nI j from fun q => by have := (nI_ltI (a := 5) (by omega) hj).mp q; omega)]
    · right
      refine ⟨?_, ?_⟩
      · rw [if_pos (show (6 : Int32) ≤ nI j from (nI_leI (a := 6) (by omega) hj).mpr (by omega))]
      · rw [if_pos (show (5 : Int32) < nI j from (nI_ltI (a := 5) (by omega) hj).mpr (by omega))]
theorem in01 (fu : Nat) (x : Int32) : (x = 0 ∧ f_X5_isIn fu x 0 1 = some 1) ∨ (x = 1 ∧ f_X5_isIn fu x 0 1 = some 1) ∨ (¬ x = 0 ∧ ¬ x = 1 ∧ f_X5_isIn fu x 0 1 = some 0) := by
  by_cases h0 : x = 0
  · subst h0; exact Or.inl ⟨rfl, rfl⟩
  · by_cases h1 : x = 1
    · subst h1; exact Or.inr (Or.inl ⟨rfl, rfl⟩)
    · refine Or.inr (Or.inr ⟨h0, h1, ?_⟩)
      unfold f_X5_isIn
      by_cases h : x < 0
      · rw [if_pos h]
      · rw [if_neg h]
        obtain ⟨j, hj, rfl⟩ := nI_of h
        rw [if_pos]
        refine (nI_ltI (a := 1) (by omega) hj).mpr ?_
        have a : j ≠ 0 := fun q => h0 (by rw [q]; rfl)
        have b : j ≠ 1 := fun q => h1 (by rw [q]; rfl)
        omega
/-- where is a number: below, in the bounds, or above -/
theorem bound_any (fu : Nat) (x : Int32) (lo hi : Nat) (hlh : lo ≤ hi) (hh : hi < 2 ^ 31) : (x < nI lo ∧ ¬ nI lo ≤ x ∧ f_X5_bound fu x (nI lo) (nI hi) = some (-4)) ∨ (∃ j, lo ≤ j ∧ j ≤ hi ∧ x = nI j ∧ nI lo ≤ x ∧ x ≤ nI hi ∧ ¬ nI hi < x ∧ f_X5_bound fu x (nI lo) (nI hi) = some 0) ∨ (nI lo ≤ x ∧ ¬ x ≤ nI hi ∧ nI hi < x ∧ f_X5_bound fu x (nI lo) (nI hi) = some (-6)) := by
  unfold f_X5_bound
  by_cases h1 : nI lo ≤ x
  · have h0 : ¬ x < 0 := fun q => by
      have h2 := (fa_lt _ _).mp q
      have h3 := (fa_le _ _).mp h1
      rw [nI_toInt (by omega)] at h3
      have h4 : (0 : Int32).toInt = 0 := rfl
      omega
    obtain ⟨j, hj, rfl⟩ := nI_of h0
    have h5 := (nI_leI (by omega) hj).mp h1
    rw [if_pos h1]
    by_cases h2 : nI j ≤ nI hi
    · right; left
      have h6 := (nI_leI hj hh).mp h2
      exact ⟨j, h5, h6, rfl, h1, h2, fun q => by have := (nI_ltI hh hj).mp q; omega, if_pos h2⟩
    · right; right
      exact ⟨h1, h2, fa_of_nle h2, if_neg h2⟩
  · left
    exact ⟨fa_of_nle h1, h1, if_neg h1⟩
