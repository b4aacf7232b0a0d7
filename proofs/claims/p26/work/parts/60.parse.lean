/-! a told house: the text in numbers; 256: no letter more -/
def chI (v : Nat) : Int32 := if v < 256 then nI v else -1
def TX (T : Nat → Nat) (n : Nat) : Prop := n ≤ 80 ∧ (∀ i, i < n → T i < 256) ∧ ∀ i, n ≤ i → T i = 256
def LX (SL : S32) (T : Nat → Nat) (n : Nat) : Prop := SL 1 0 = nI n ∧ ∀ i, i < n → SL 0 i = nI (T i)
def MX (M : S32) (T : Nat → Nat) (n p : Nat) : Prop := M 14 0 = nI n ∧ (∀ i, i < n → M 8 i = nI (T i)) ∧ M 15 0 = nI p
theorem TX_le {T : Nat → Nat} {n : Nat} (h : TX T n) (i : Nat) : T i ≤ 256 := by
  rcases Nat.lt_or_ge i n with q | q
  · have := h.2.1 i q; omega
  · have := h.2.2 i q; omega
theorem TX_lt {T : Nat → Nat} {n : Nat} (h : TX T n) {i : Nat} (hi : T i ≠ 256) : i < n := by
  rcases Nat.lt_or_ge i n with q | q
  · exact q
  · exact absurd (h.2.2 i q) hi
theorem c_let {SL : S32} {T : Nat → Nat} {n : Nat} (hT : TX T n) (hL : LX SL T n) (fu : Nat) {i : Nat} (hi : i < 1000) : f_X2_letterAt fu SL (nI i) = some (chI (T i)) := by
  have hn := hT.1
  unfold f_X2_letterAt
  rw [if_neg (nI_nn (by omega)), hL.1]
  by_cases h : n ≤ i
  · rw [if_pos (nI_le h (by omega)), hT.2.2 i h]; rfl
  · rw [if_neg (nI_ge (by omega) (by omega)), if_neg (show ¬ (80 : Int32) ≤ nI i from fun w => by have := (nI_leI (a := 80) (by omega) (by omega)).mp w; omega), gd_in (by omega) (by omega), nI_clamp (by omega), hL.2 i (by omega)]
    unfold chI
    rw [if_pos (hT.2.1 i (by omega))]
theorem m_next {M : S32} {T : Nat → Nat} {n p : Nat} (hT : TX T n) (hX : MX M T n p) (fu : Nat) (hp : p < 1000) : f_X5_next fu M = some (chI (T p)) := by
  have hn := hT.1
  unfold f_X5_next
  rw [hX.1, hX.2.2]
  by_cases h : n ≤ p
  · rw [if_pos (nI_le h (by omega)), hT.2.2 p h]; rfl
  · rw [if_neg (nI_ge (by omega) (by omega)), gd_in (by omega) (by omega), nI_clamp (by omega), hX.2.1 p (by omega)]
    unfold chI
    rw [if_pos (hT.2.1 p (by omega))]
def dg (v : Nat) : Bool := decide (48 ≤ v) && decide (v ≤ 57)
def kd (v : Nat) : Nat := if v = 99 then 3 else if v = 100 then 4 else if v = 105 then 2 else if v = 108 then 0 else if v = 115 then 1 else if v = 121 then 5 else 6
theorem dg_ne {v : Nat} (h : dg v = true) : 48 ≤ v ∧ v ≤ 57 := by
  simp only [dg, Bool.and_eq_true, decide_eq_true_eq] at h; exact h
theorem TX_dg {T : Nat → Nat} {n : Nat} (h : TX T n) {i : Nat} (hi : dg (T i) = true) : i < n := TX_lt h (fun q => by have := dg_ne hi; omega)
theorem TX_kd {T : Nat → Nat} {n : Nat} (h : TX T n) {i : Nat} (hi : kd (T i) < 6) : i < n := TX_lt h (fun q => by rw [q] at hi; exact absurd hi (by decide))
theorem c_dig0 : ∀ v, v < 257 → f_X2_isDigit 0 (chI v) = some (if dg v = true then 1 else 0) := by decide +kernel
theorem c_dig (fu : Nat) {v : Nat} (h : v ≤ 256) : f_X2_isDigit fu (chI v) = some (if dg v = true then 1 else 0) := c_dig0 v (by omega)
theorem m_in0 : ∀ v, v < 257 → f_X5_isIn 0 (chI v) 48 57 = some (if dg v = true then 1 else 0) := by decide +kernel
theorem m_dig {M : S32} {T : Nat → Nat} {n p : Nat} (hT : TX T n) (hX : MX M T n p) (fu : Nat) (hp : p < 1000) : f_X5_isDigit fu M = some (if dg (T p) = true then 1 else 0) := by
  have hv := TX_le hT p
  unfold f_X5_isDigit
  rw [m_next hT hX fu hp]
  simp only [bd]
  rw [show f_X5_isIn fu (chI (T p)) 48 57 = _ from m_in0 (T p) (by omega)]
  simp only []
  by_cases h : dg (T p) = true
  · rw [if_pos h]; rfl
  · rw [if_neg h]; rfl
theorem c_kd0 : ∀ v, v < 257 → f_X0_ofLetter 0 (chI v) = some (if kd v < 6 then nI (kd v) else -1) := by decide +kernel
theorem c_kd (fu : Nat) {v : Nat} (h : v ≤ 256) : f_X0_ofLetter fu (chI v) = some (if kd v < 6 then nI (kd v) else -1) := c_kd0 v (by omega)
theorem m_kd0 : ∀ v, v < 257 → f_X5_kindOf 0 (chI v) = some (if kd v < 6 then nI (kd v) else -1) := by decide +kernel
theorem m_kd (fu : Nat) {v : Nat} (h : v ≤ 256) : f_X5_kindOf fu (chI v) = some (if kd v < 6 then nI (kd v) else -1) := m_kd0 v (by omega)
theorem ch_eq {v c : Nat} (h : v ≤ 256) (hc : c < 128) : chI v = nI c ↔ v = c := by
  unfold chI
  by_cases q : v < 256
  · rw [if_pos q]; exact nI_eq (by omega) (by omega)
  · rw [if_neg q]
    constructor
    · intro w; exact absurd w.symm (nI_m1 (by omega))
    · intro w; omega
theorem d1 : ∀ v, v < 257 → dg v = true → ((10 : Int32) * 0 + chI v) - 48 = nI (v - 48) := by decide +kernel
theorem d2 : ∀ a, a < 10 → ∀ v, v < 257 → dg v = true → ((10 : Int32) * nI a + chI v) - 48 = nI (10 * a + (v - 48)) := by decide +kernel
/-! how one statement goes on: where its last letter stands, or the first with which it can't go on -/
def cm (T : Nat → Nat) (p : Nat) : Nat := if dg (T (p + 3)) = true then p + 4 else p + 3
def yk (T : Nat → Nat) (p : Nat) : Nat := fa_first (fun j => !dg (T (p + 1 + j))) 8
def fe (T : Nat → Nat) (p : Nat) : Nat := if T p = 108 then (if kd (T (p + 1)) < 6 then (if dg (T (p + 2)) = true then (if T (cm T p) = 44 then (if dg (T (cm T p + 1)) = true then cm T p + 2 else cm T p + 1) else cm T p) else p + 2) else p + 1) else if T p = 119 then (if dg (T (p + 1)) = true then (if dg (T (p + 2)) = true then p + 3 else p + 2) else p + 1) else if T p = 121 then p + 1 + yk T p else p
def gs (T : Nat → Nat) (p : Nat) : Bool := if T p = 108 then decide (kd (T (p + 1)) < 6) && dg (T (p + 2)) && decide (T (cm T p) = 44) && dg (T (cm T p + 1)) && decide (T (cm T p + 2) = 59) else if T p = 119 then dg (T (p + 1)) && dg (T (p + 2)) && decide (T (p + 3) = 59) else if T p = 121 then decide (T (p + 1 + yk T p) = 59) else false
theorem yk_le (T : Nat → Nat) (p : Nat) : yk T p ≤ 8 := fa_first_le _ 8
theorem yk_dg {T : Nat → Nat} {p j : Nat} (h : j < yk T p) : dg (T (p + 1 + j)) = true := by
  have := fa_first_no (fun j => !dg (T (p + 1 + j))) 8 j h
  simpa using this
theorem yk_nd {T : Nat → Nat} {p : Nat} (h : yk T p < 8) : dg (T (p + 1 + yk T p)) = false := by
  have := fa_first_yes (fun j => !dg (T (p + 1 + j))) 8 h
  simpa [yk] using this
/-! the class: from letter to letter -/
theorem b0 : ∀ v, v < 257 → f_X2_behind 0 0 (chI v) = some (if v = 108 then 1 else if v = 119 then 6 else if v = 121 then 9 else -1) := by decide +kernel
theorem b1 : ∀ v, v < 257 → f_X2_behind 0 1 (chI v) = some (if kd v < 6 then 2 else -1) := by decide +kernel
theorem b2 : ∀ v, v < 257 → f_X2_behind 0 2 (chI v) = some (if dg v = true then 3 else -1) := by decide +kernel
theorem b3 : ∀ v, v < 257 → f_X2_behind 0 3 (chI v) = some (if dg v = true then 4 else if v = 44 then 5 else -1) := by decide +kernel
theorem b4 : ∀ v, v < 257 → f_X2_behind 0 4 (chI v) = some (if v = 44 then 5 else -1) := by decide +kernel
theorem b5 : ∀ v, v < 257 → f_X2_behind 0 5 (chI v) = some (if dg v = true then 8 else -1) := by decide +kernel
theorem b6 : ∀ v, v < 257 → f_X2_behind 0 6 (chI v) = some (if dg v = true then 7 else -1) := by decide +kernel
theorem b7 : ∀ v, v < 257 → f_X2_behind 0 7 (chI v) = some (if dg v = true then 8 else -1) := by decide +kernel
theorem b8 : ∀ v, v < 257 → f_X2_behind 0 8 (chI v) = some (if v = 59 then 0 else -1) := by decide +kernel
theorem b9 : ∀ j, j < 9 → ∀ v, v < 257 → f_X2_behind 0 (nI (9 + j)) (chI v) = some (if v = 59 then 0 else if dg v = true ∧ j < 8 then nI (9 + j + 1) else -1) := by decide +kernel
def FM (fu : Nat) (SL : S32) (n : Nat) (s : Int32) (p : Nat) (r : Int32) : Prop := ∀ m, n < m + p → f_X2_firstMisfit_4 fu SL m s (nI p) = some r
theorem fm_step {fu : Nat} {SL : S32} {T : Nat → Nat} {n : Nat} (hT : TX T n) (hL : LX SL T n) {s : Int32} (s' : Int32) {p : Nat} {r : Int32} (hp : p < n) (hb : f_X2_behind 0 s (chI (T p)) = some s') (hs : ¬ s' = -1) (h : FM fu SL n s' (p + 1) r) : FM fu SL n s p r := by
  intro m hm
  have hn := hT.1
  obtain ⟨m, rfl⟩ : ∃ m', m = m' + 1 := ⟨m - 1, by omega⟩
  show s_X2_firstMisfit_4 fu (f_X2_firstMisfit_4 fu SL m) SL s (nI p) = some r
  unfold s_X2_firstMisfit_4
  rw [hL.1, if_neg (nI_ge hp (by omega)), c_let hT hL fu (by omega)]
  simp only [bd]
  rw [show f_X2_behind fu s (chI (T p)) = some s' from hb]
  simp only []
  rw [if_neg hs, nI_1]
  exact h m (by omega)
theorem fm_no {fu : Nat} {SL : S32} {T : Nat → Nat} {n : Nat} (hT : TX T n) (hL : LX SL T n) {s : Int32} {p : Nat} (hs : ¬ s = 0) (hp : p ≤ n) (hb : p < n → f_X2_behind 0 s (chI (T p)) = some (-1)) : FM fu SL n s p (nI p) := by
  intro m hm
  have hn := hT.1
  obtain ⟨m, rfl⟩ : ∃ m', m = m' + 1 := ⟨m - 1, by omega⟩
  show s_X2_firstMisfit_4 fu (f_X2_firstMisfit_4 fu SL m) SL s (nI p) = some (nI p)
  unfold s_X2_firstMisfit_4
  rcases Nat.lt_or_ge p n with q | q
  · rw [hL.1, if_neg (nI_ge q (by omega)), c_let hT hL fu (by omega)]
    simp only [bd]
    rw [show f_X2_behind fu s (chI (T p)) = some (-1) from hb q]
    simp only []
    rw [if_pos trivial]
  · obtain rfl : p = n := by omega
    rw [hL.1, if_pos (nI_le (Nat.le_refl _) (by omega))]
    unfold f_X2_firstMisfit_35 f_X2_firstMisfit_50
    rw [hL.1]
    by_cases w : nI p ≤ 0
    · rw [if_pos w]
    · rw [if_neg w, if_neg hs]
theorem fm_end {fu : Nat} {SL : S32} {T : Nat → Nat} {n : Nat} (hT : TX T n) (hL : LX SL T n) (h : 0 < n) : FM fu SL n 0 n (-1) := by
  intro m hm
  have hn := hT.1
  obtain ⟨m, rfl⟩ : ∃ m', m = m' + 1 := ⟨m - 1, by omega⟩
  show s_X2_firstMisfit_4 fu (f_X2_firstMisfit_4 fu SL m) SL 0 (nI n) = some (-1)
  unfold s_X2_firstMisfit_4
  rw [hL.1, if_pos (nI_le (Nat.le_refl _) (by omega))]
  unfold f_X2_firstMisfit_35 f_X2_firstMisfit_50
  rw [hL.1, if_neg (nI_nle h (by omega)), if_pos rfl]
theorem fm_empty {fu : Nat} {SL : S32} {T : Nat → Nat} (hL : LX SL T 0) : FM fu SL 0 0 0 0 := by
  intro m hm
  obtain ⟨m, rfl⟩ : ∃ m', m = m' + 1 := ⟨m - 1, by omega⟩
  show s_X2_firstMisfit_4 fu (f_X2_firstMisfit_4 fu SL m) SL 0 (nI 0) = some 0
  unfold s_X2_firstMisfit_4
  rw [hL.1, if_pos (nI_le (Nat.le_refl _) (by omega))]
  unfold f_X2_firstMisfit_35 f_X2_firstMisfit_50
  rw [hL.1, if_pos (show nI 0 ≤ (0 : Int32) by decide)]
  rfl
theorem fm_yk {fu : Nat} {SL : S32} {T : Nat → Nat} {n : Nat} (hT : TX T n) (hL : LX SL T n) {p : Nat} {r : Int32} (h : FM fu SL n (nI (9 + yk T p)) (p + 1 + yk T p) r) : ∀ d, d ≤ yk T p → FM fu SL n (nI (9 + (yk T p - d))) (p + 1 + (yk T p - d)) r
  | 0, _ => by rw [Nat.sub_zero]; exact h
  | d + 1, hd => by
    have ih := fm_yk hT hL h d (by omega)
    have h8 := yk_le T p
    obtain ⟨j, hj⟩ : ∃ j, yk T p - d = j + 1 := ⟨yk T p - d - 1, by omega⟩
    have hj2 : yk T p - (d + 1) = j := by omega
    rw [hj] at ih
    rw [hj2]
    have hdg : dg (T (p + 1 + j)) = true := yk_dg (by omega)
    have hv := dg_ne hdg
    refine fm_step hT hL (nI (9 + j + 1)) (TX_dg hT hdg) ?_ (nI_m1 (by omega)) ih
    rw [b9 j (by omega) _ (by omega), if_neg (by omega), if_pos ⟨hdg, by omega⟩]
theorem fm_st {fu : Nat} {SL : S32} {T : Nat → Nat} {n : Nat} (hT : TX T n) (hL : LX SL T n) {p : Nat} (hp : p < n) : (gs T p = true ∧ ∀ r, FM fu SL n 0 (fe T p + 1) r → FM fu SL n 0 p r) ∨ (gs T p = false ∧ fe T p ≤ n ∧ FM fu SL n 0 p (nI (fe T p))) := by
  have hv := TX_le hT
  unfold fe gs
  by_cases h1 : T p = 108
  · rw [if_pos h1, if_pos h1]
    have A1 : ∀ r, FM fu SL n 1 (p + 1) r → FM fu SL n 0 p r := fun r h => fm_step hT hL 1 hp (by rw [b0 _ (by have := hv p; omega), if_pos h1]) (by decide) h
    by_cases h2 : kd (T (p + 1)) < 6
    · have p1 := TX_kd hT h2
      have A2 : ∀ r, FM fu SL n 2 (p + 2) r → FM fu SL n 0 p r := fun r h => A1 r (fm_step hT hL 2 p1 (by rw [b1 _ (by have := hv (p + 1); omega), if_pos h2]) (by decide) h)
      by_cases h3 : dg (T (p + 2)) = true
      · have p2 := TX_dg hT h3
        have A3 : ∀ r, FM fu SL n 3 (p + 3) r → FM fu SL n 0 p r := fun r h => A2 r (fm_step hT hL 3 p2 (by rw [b2 _ (by have := hv (p + 2); omega), if_pos h3]) (by decide) h)
        obtain ⟨c, hc, hcn, A4, B4⟩ : ∃ c, cm T p = c ∧ c ≤ n ∧ (T c = 44 → ∀ r, FM fu SL n 5 (c + 1) r → FM fu SL n 0 p r) ∧ (T c ≠ 44 → FM fu SL n 0 p (nI c)) := by
          refine ⟨_, rfl, ?_⟩
          unfold cm
          by_cases h4 : dg (T (p + 3)) = true
          · rw [if_pos h4]
            have p3 := TX_dg hT h4
            have A4 : ∀ r, FM fu SL n 4 (p + 4) r → FM fu SL n 0 p r := fun r h => A3 r (fm_step hT hL 4 p3 (by rw [b3 _ (by have := hv (p + 3); omega), if_pos h4]) (by decide) h)
            refine ⟨p3, fun h5 r h => A4 r (fm_step hT hL 5 (TX_lt hT (by omega)) (by rw [b4 _ (by have := hv (p + 4); omega), if_pos h5]) (by decide) h), fun h5 => A4 _ (fm_no hT hL (by decide) p3 (fun _ => by rw [b4 _ (by have := hv (p + 4); omega), if_neg h5]))⟩
          · rw [if_neg h4]
            refine ⟨p2, fun h5 r h => A3 r (fm_step hT hL 5 (TX_lt hT (by omega)) (by rw [b3 _ (by have := hv (p + 3); omega), if_neg h4, if_pos h5]) (by decide) h), fun h5 => A3 _ (fm_no hT hL (by decide) p2 (fun _ => by rw [b3 _ (by have := hv (p + 3); omega), if_neg h4, if_neg h5]))⟩
        rw [hc]
        by_cases h5 : T c = 44
        · have pc := TX_lt hT (i := c) (by omega)
          have A5 := A4 h5
          by_cases h6 : dg (T (c + 1)) = true
          · have pd := TX_dg hT h6
            have A6 : ∀ r, FM fu SL n 8 (c + 2) r → FM fu SL n 0 p r := fun r h => A5 r (fm_step hT hL 8 pd (by rw [b5 _ (by have := hv (c + 1); omega), if_pos h6]) (by decide) h)
            by_cases h7 : T (c + 2) = 59
            · left
              refine ⟨by simp [h2, h3, h5, h6, h7], fun r h => ?_⟩
              rw [if_pos h2, if_pos h3, if_pos h5, if_pos h6] at h
              exact A6 r (fm_step hT hL 0 (TX_lt hT (by omega)) (by rw [b8 _ (by have := hv (c + 2); omega), if_pos h7]) (by decide) h)
            · right
              rw [if_pos h2, if_pos h3, if_pos h5, if_pos h6]
              exact ⟨by simp [h7], pd, A6 _ (fm_no hT hL (by decide) pd (fun _ => by rw [b8 _ (by have := hv (c + 2); omega), if_neg h7]))⟩
          · right
            rw [if_pos h2, if_pos h3, if_pos h5, if_neg h6]
            exact ⟨by simp [h6], pc, A5 _ (fm_no hT hL (by decide) pc (fun _ => by rw [b5 _ (by have := hv (c + 1); omega), if_neg h6]))⟩
        · right
          rw [if_pos h2, if_pos h3, if_neg h5]
          exact ⟨by simp [h5], hcn, B4 h5⟩
      · right
        rw [if_pos h2, if_neg h3]
        exact ⟨by simp [h3], p1, A2 _ (fm_no hT hL (by decide) p1 (fun _ => by rw [b2 _ (by have := hv (p + 2); omega), if_neg h3]))⟩
    · right
      rw [if_neg h2]
      exact ⟨by simp [h2], hp, A1 _ (fm_no hT hL (by decide) hp (fun _ => by rw [b1 _ (by have := hv (p + 1); omega), if_neg h2]))⟩
  · rw [if_neg h1, if_neg h1]
    by_cases h2 : T p = 119
    · rw [if_pos h2, if_pos h2]
      have A1 : ∀ r, FM fu SL n 6 (p + 1) r → FM fu SL n 0 p r := fun r h => fm_step hT hL 6 hp (by rw [b0 _ (by have := hv p; omega), if_neg h1, if_pos h2]) (by decide) h
      by_cases h3 : dg (T (p + 1)) = true
      · have p1 := TX_dg hT h3
        have A2 : ∀ r, FM fu SL n 7 (p + 2) r → FM fu SL n 0 p r := fun r h => A1 r (fm_step hT hL 7 p1 (by rw [b6 _ (by have := hv (p + 1); omega), if_pos h3]) (by decide) h)
        by_cases h4 : dg (T (p + 2)) = true
        · have p2 := TX_dg hT h4
          have A3 : ∀ r, FM fu SL n 8 (p + 3) r → FM fu SL n 0 p r := fun r h => A2 r (fm_step hT hL 8 p2 (by rw [b7 _ (by have := hv (p + 2); omega), if_pos h4]) (by decide) h)
          by_cases h5 : T (p + 3) = 59
          · left
            refine ⟨by simp [h3, h4, h5], fun r h => ?_⟩
            rw [if_pos h3, if_pos h4] at h
            exact A3 r (fm_step hT hL 0 (TX_lt hT (by omega)) (by rw [b8 _ (by have := hv (p + 3); omega), if_pos h5]) (by decide) h)
          · right
            rw [if_pos h3, if_pos h4]
            exact ⟨by simp [h5], p2, A3 _ (fm_no hT hL (by decide) p2 (fun _ => by rw [b8 _ (by have := hv (p + 3); omega), if_neg h5]))⟩
        · right
          rw [if_pos h3, if_neg h4]
          exact ⟨by simp [h4], p1, A2 _ (fm_no hT hL (by decide) p1 (fun _ => by rw [b7 _ (by have := hv (p + 2); omega), if_neg h4]))⟩
      · right
        rw [if_neg h3]
        exact ⟨by simp [h3], hp, A1 _ (fm_no hT hL (by decide) hp (fun _ => by rw [b6 _ (by have := hv (p + 1); omega), if_neg h3]))⟩
    · rw [if_neg h2, if_neg h2]
      by_cases h3 : T p = 121
      · rw [if_pos h3, if_pos h3]
        have A1 : ∀ r, FM fu SL n 9 (p + 1) r → FM fu SL n 0 p r := fun r h => fm_step hT hL 9 hp (by rw [b0 _ (by have := hv p; omega), if_neg h1, if_neg h2, if_pos h3]) (by decide) h
        have A2 : ∀ r, FM fu SL n (nI (9 + yk T p)) (p + 1 + yk T p) r → FM fu SL n 0 p r := fun r h => A1 r (by
          have := fm_yk hT hL h (yk T p) (Nat.le_refl _)
          rw [Nat.sub_self] at this
          exact this)
        have h8 := yk_le T p
        have hk : p + 1 + yk T p ≤ n := by
          rcases Nat.eq_zero_or_pos (yk T p) with q | q
          · omega
          · have := TX_dg hT (yk_dg (T := T) (p := p) (j := yk T p - 1) (by omega)); omega
        by_cases h4 : T (p + 1 + yk T p) = 59
        · left
          exact ⟨by simp [h4], fun r h => A2 r (fm_step hT hL 0 (TX_lt hT (by omega)) (by rw [b9 _ (by omega) _ (by have := hv (p + 1 + yk T p); omega), if_pos h4]) (by decide) h)⟩
        · right
          refine ⟨by simp [h4], hk, A2 _ (fm_no hT hL (fun w => ?_) hk (fun _ => ?_))⟩
          · have := (nI_z (by omega)).mp w; omega
          · rw [b9 _ (by omega) _ (by have := hv (p + 1 + yk T p); omega), if_neg h4, if_neg]
            rintro ⟨q1, q2⟩
            rw [yk_nd q2] at q1; cases q1
      · right
        rw [if_neg h3, if_neg h3]
        refine ⟨rfl, by omega, ?_⟩
        intro m hm
        have hn := hT.1
        obtain ⟨m, rfl⟩ : ∃ m', m = m' + 1 := ⟨m - 1, by omega⟩
        show s_X2_firstMisfit_4 fu (f_X2_firstMisfit_4 fu SL m) SL 0 (nI p) = some (nI p)
        unfold s_X2_firstMisfit_4
        rw [hL.1, if_neg (nI_ge hp (by omega)), c_let hT hL fu (by omega)]
        simp only [bd]
        rw [show f_X2_behind fu 0 (chI (T p)) = _ from b0 _ (by have := hv p; omega), if_neg h1, if_neg h2, if_neg h3]
        simp only []
        rw [if_pos trivial]
