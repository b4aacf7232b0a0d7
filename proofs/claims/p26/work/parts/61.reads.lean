/-! the reference reads one statement -/
def NX (M N : S32) (x v : Nat) : Prop := N 11 x = nI v ∧ (∀ i, i ≠ x → N 11 i = M 11 i) ∧ ∀ a, a ≠ 11 → a ≠ 15 → N a = M a
theorem MX_go {M : S32} {T : Nat → Nat} {n p : Nat} (hX : MX M T n p) (q : Nat) : MX (sa M 15 (fun _ => nI q)) T n q := ⟨hX.1, hX.2.1, rfl⟩
theorem MX_fr {M N : S32} {T : Nat → Nat} {n p q : Nat} (hX : MX M T n p) (h14 : N 14 = M 14) (h8 : N 8 = M 8) (h15 : N 15 0 = nI q) : MX N T n q := ⟨by rw [h14]; exact hX.1, by rw [h8]; exact hX.2.1, h15⟩
theorem n_step {fu : Nat} {M : S32} {T : Nat → Nat} {n p : Nat} (hT : TX T n) (hX : MX M T n p) (hp : p < 900) (m : Nat) {x : Int32} {d a v : Int32} {k : Int32} (hd : ¬ d ≤ a) (hg : dg (T p) = true) (hv : ((10 : Int32) * v + chI (T p)) - 48 = k) : f_X5_readsNumber_14 fu (m + 1) x d v a M = f_X5_readsNumber_14 fu m x d k (a + 1) (sa M 15 (fun _ => nI (p + 1))) := by
  show s_X5_readsNumber_14 fu (f_X5_readsNumber_14 fu m) x d v a M = _
  unfold s_X5_readsNumber_14
  rw [if_neg hd, m_dig hT hX fu (by omega)]
  simp only [bd]
  rw [if_pos hg, if_neg n10, m_next hT hX fu (by omega)]
  simp only []
  rw [hv, hX.2.2, nI_1]
theorem n_end {fu : Nat} {M : S32} {T : Nat → Nat} {n p : Nat} (hT : TX T n) (hX : MX M T n p) (hp : p < 900) (m : Nat) {x : Nat} (hx : x < 120) {d a v : Int32} (h : d ≤ a ∨ dg (T p) = false) : f_X5_readsNumber_14 fu (m + 1) (nI x) d v a M = some (1, sa M 11 (upd (M 11) x v)) := by
  show s_X5_readsNumber_14 fu (f_X5_readsNumber_14 fu m) (nI x) d v a M = _
  unfold s_X5_readsNumber_14 f_X5_readsNumber_56
  rw [gd_in hx (by omega), nI_clamp (by omega)]
  by_cases hd : d ≤ a
  · rw [if_pos hd]
  · rw [if_neg hd, m_dig hT hX fu (by omega)]
    simp only [bd]
    rcases h with h | h
    · exact absurd h hd
    · rw [h, if_pos (by decide)]
theorem m_num0 {fu : Nat} {M : S32} {T : Nat → Nat} {n p : Nat} (hT : TX T n) (hX : MX M T n p) (hp : p < 900) {x d : Int32} (h : dg (T p) = false) : f_X5_readsNumber fu M x d = some (0, M) := by
  unfold f_X5_readsNumber
  rw [m_dig hT hX fu (by omega)]
  simp only [bd]
  rw [h, if_pos (by decide)]
theorem m_num1 {fu : Nat} (hfu : 9 ≤ fu) {M : S32} {T : Nat → Nat} {n p : Nat} (hT : TX T n) (hX : MX M T n p) (hp : p < 800) {x : Nat} (hx : x < 120) (h : dg (T p) = true) : ∃ N, f_X5_readsNumber fu M (nI x) 1 = some (1, N) ∧ NX M N x (T p - 48) ∧ MX N T n (p + 1) := by
  have hv := TX_le hT p
  unfold f_X5_readsNumber
  rw [m_dig hT hX fu (by omega)]
  simp only [bd]
  rw [if_pos h, if_neg n10, show f_X5_readsNumber_14 fu fu = f_X5_readsNumber_14 fu ((fu - 2) + 1 + 1) by rw [show fu - 2 + 1 + 1 = fu by omega]]
  rw [n_step hT hX (by omega) _ (by decide) h (d1 _ (by omega) h), n_end hT (MX_go hX (p + 1)) (by omega) _ hx (Or.inl (by decide))]
  refine ⟨_, rfl, ⟨pk_us, fun i hi => pk_un hi, fun a h11 h15 => ?_⟩, ⟨hX.1, hX.2.1, rfl⟩⟩
  rw [sa_ne h11, sa_ne h15]
theorem m_num2 {fu : Nat} (hfu : 9 ≤ fu) {M : S32} {T : Nat → Nat} {n p : Nat} (hT : TX T n) (hX : MX M T n p) (hp : p < 800) {x : Nat} (hx : x < 120) (h : dg (T p) = true) : ∃ N, f_X5_readsNumber fu M (nI x) 2 = some (1, N) ∧ NX M N x (if dg (T (p + 1)) = true then 10 * (T p - 48) + (T (p + 1) - 48) else T p - 48) ∧ MX N T n (if dg (T (p + 1)) = true then p + 2 else p + 1) := by
  have hv := TX_le hT p
  have hv1 := TX_le hT (p + 1)
  have hg := dg_ne h
  unfold f_X5_readsNumber
  rw [m_dig hT hX fu (by omega)]
  simp only [bd]
  rw [if_pos h, if_neg n10, show f_X5_readsNumber_14 fu fu = f_X5_readsNumber_14 fu ((fu - 3) + 1 + 1 + 1) by rw [show fu - 3 + 1 + 1 + 1 = fu by omega]]
  rw [n_step hT hX (by omega) _ (by decide) h (d1 _ (by omega) h)]
  by_cases h2 : dg (T (p + 1)) = true
  · rw [n_step hT (MX_go hX (p + 1)) (by omega) _ (by decide) h2 (d2 (T p - 48) (by omega) _ (by omega) h2), sa_sa, n_end hT (MX_go hX (p + 1 + 1)) (by omega) _ hx (Or.inl (by decide)), if_pos h2, if_pos h2]
    refine ⟨_, rfl, ⟨pk_us, fun i hi => pk_un hi, fun a h11 h15 => ?_⟩, ⟨hX.1, hX.2.1, rfl⟩⟩
    rw [sa_ne h11, sa_ne h15]
  · rw [n_end hT (MX_go hX (p + 1)) (by omega) _ hx (Or.inr (by simpa using h2)), if_neg h2, if_neg h2]
    refine ⟨_, rfl, ⟨pk_us, fun i hi => pk_un hi, fun a h11 h15 => ?_⟩, ⟨hX.1, hX.2.1, rfl⟩⟩
    rw [sa_ne h11, sa_ne h15]
/-- the age told -/
def ag (T : Nat → Nat) (p : Nat) : Nat := if dg (T (p + 3)) = true then 10 * (T (p + 2) - 48) + (T (p + 3) - 48) else T (p + 2) - 48
/-- a lodger read from the letter of his kind (at p + 1) -/
theorem m_rl {fu : Nat} (hfu : 9 ≤ fu) {M : S32} {T : Nat → Nat} {n p : Nat} (hT : TX T n) (hX : MX M T n (p + 1)) (hp : p < 700) {x : Nat} (hx : x + 2 < 120) : ∃ N, (∀ i, i < x → N 11 i = M 11 i) ∧ (∀ a, a ≠ 11 → a ≠ 15 → N a = M a) ∧
    ((kd (T (p + 1)) < 6 ∧ dg (T (p + 2)) = true ∧ T (cm T p) = 44 ∧ dg (T (cm T p + 1)) = true ∧ f_X5_readsLodger fu M (nI x) = some (1, N) ∧ N 15 0 = nI (cm T p + 2) ∧ N 11 x = nI (kd (T (p + 1))) ∧ N 11 (x + 1) = nI (ag T p) ∧ N 11 (x + 2) = nI (T (cm T p + 1) - 48)) ∨
    (¬ (kd (T (p + 1)) < 6 ∧ dg (T (p + 2)) = true ∧ T (cm T p) = 44 ∧ dg (T (cm T p + 1)) = true) ∧ f_X5_readsLodger fu M (nI x) = some (0, N) ∧ N 15 0 = nI (if kd (T (p + 1)) < 6 then (if dg (T (p + 2)) = true then (if T (cm T p) = 44 then cm T p + 1 else cm T p) else p + 2) else p + 1))) := by
  unfold f_X5_readsLodger
  rw [m_next hT hX fu (by omega)]
  simp only [bd]
  rw [m_kd fu (TX_le hT _)]
  simp only []
  rw [gd_in (show x < 120 by omega) (by omega), gd_in (show x < 120 by omega) (by omega), nI_clamp (by omega), pk_us, nI_1, show nI x + (2 : Int32) = nI (x + 2) from nI_add x 2]
  by_cases h2 : kd (T (p + 1)) < 6
  · simp only [if_pos h2]
    rw [if_pos (nI_p (by omega)), hX.2.2, nI_1]
    have hX2 : MX (sa (sa M 11 (upd (M 11) x (nI (kd (T (p + 1)))))) 15 (fun _ => nI (p + 1 + 1))) T n (p + 2) := ⟨hX.1, hX.2.1, rfl⟩
    by_cases h3 : dg (T (p + 2)) = true
    · obtain ⟨N1, n1, ⟨a1, a2, a3⟩, a4⟩ := m_num2 (fu := fu) hfu hT hX2 (by omega) (x := x + 1) (by omega) h3
      rw [n1]
      simp only []
      rw [if_neg n10]
      have ec : (if dg (T (p + 2 + 1)) = true then p + 2 + 2 else p + 2 + 1) = cm T p := rfl
      rw [ec] at a4
      have hcb : cm T p ≤ p + 4 := by unfold cm; split <;> omega
      have ea : (if dg (T (p + 2 + 1)) = true then 10 * (T (p + 2) - 48) + (T (p + 2 + 1) - 48) else T (p + 2) - 48) = ag T p := rfl
      rw [ea] at a1
      rw [m_next hT a4 fu (by omega)]
      simp only []
      by_cases h4 : T (cm T p) = 44
      · rw [if_pos (show chI (T (cm T p)) = 44 from (ch_eq (c := 44) (TX_le hT _) (by omega)).mpr h4), a4.2.2, nI_1]
        by_cases h5 : dg (T (cm T p + 1)) = true
        · obtain ⟨N2, m1, ⟨b1, b2, b3⟩, b4⟩ := m_num1 (fu := fu) hfu hT (MX_go a4 (cm T p + 1)) (by omega) (x := x + 2) (by omega) h5
          rw [m1]
          refine ⟨N2, fun i hi => ?_, fun a h11 h15 => ?_, Or.inl ⟨h2, h3, h4, h5, rfl, b4.2.2, ?_, ?_, b1⟩⟩
          · rw [b2 i (by omega)]
            show N1 11 i = M 11 i
            rw [a2 i (by omega)]
            exact pk_un (by omega)
          · rw [b3 a h11 h15, sa_ne h15, a3 a h11 h15, sa_ne h15, sa_ne h11]
          · rw [b2 x (by omega)]
            show N1 11 x = _
            rw [a2 x (by omega)]
            exact pk_us
          · rw [b2 (x + 1) (by omega)]
            exact a1
        · rw [m_num0 hT (MX_go a4 (cm T p + 1)) (by omega) (by simpa using h5)]
          refine ⟨_, fun i hi => ?_, fun a h11 h15 => ?_, Or.inr ⟨fun w => h5 w.2.2.2, rfl, ?_⟩⟩
          · show N1 11 i = M 11 i
            rw [a2 i (by omega)]
            exact pk_un (by omega)
          · exact (sa_ne h15).trans ((a3 a h11 h15).trans ((sa_ne h15).trans (sa_ne h11)))
          · rw [if_pos h3, if_pos h4]; rfl
      · rw [if_neg (show ¬ chI (T (cm T p)) = 44 from fun w => h4 ((ch_eq (c := 44) (TX_le hT _) (by omega)).mp w))]
        refine ⟨N1, fun i hi => ?_, fun a h11 h15 => ?_, Or.inr ⟨fun w => h4 w.2.2.1, rfl, ?_⟩⟩
        · rw [a2 i (by omega)]
          exact pk_un (by omega)
        · rw [a3 a h11 h15, sa_ne h15, sa_ne h11]
        · rw [if_pos h3, if_neg h4]; exact a4.2.2
    · rw [m_num0 hT hX2 (by omega) (by simpa using h3)]
      refine ⟨_, fun i hi => pk_un (by omega), fun a h11 h15 => ?_, Or.inr ⟨fun w => h3 w.2.1, rfl, ?_⟩⟩
      · exact (sa_ne h15).trans (sa_ne h11)
      · rw [if_neg h3]; rfl
  · simp only [if_neg h2]
    rw [if_neg (show ¬ (0 : Int32) ≤ -1 by decide)]
    exact ⟨_, fun i hi => pk_un (by omega), fun a h11 h15 => sa_ne h11, Or.inr ⟨fun w => h2 w.1, rfl, hX.2.2⟩⟩
theorem m_rd {fu : Nat} (hfu : 100 ≤ fu) {M : S32} {T : Nat → Nat} {n p k : Nat} (hT : TX T n) (hX : MX M T n (p + 1)) (hp : p < 700) (hk : k < 40) (h16 : M 16 0 = nI k) : ∃ N, f_X5_readsDeaths fu M = some (1, N) ∧ MX N T n (p + 1 + yk T p) ∧ N 12 k = nI (p + 1) ∧ N 13 k = nI (p + 1 + yk T p) ∧ (∀ i, i ≠ k → N 12 i = M 12 i ∧ N 13 i = M 13 i) ∧ ∀ a, a ≠ 12 → a ≠ 13 → a ≠ 15 → N a = M a := by
  have h8 := yk_le T p
  unfold f_X5_readsDeaths
  rw [h16, gd_in hk (by omega), nI_clamp (by omega), hX.2.2]
  have go : ∀ m j, j ≤ yk T p → yk T p < m + j → ∀ N : S32, MX N T n (p + 1 + j) → N 16 0 = nI k → N 12 k = nI (p + 1) → ∃ R, f_X5_readsDeaths_13 fu m N = some (1, R) ∧ MX R T n (p + 1 + yk T p) ∧ R 13 = upd (N 13) k (nI (p + 1 + yk T p)) ∧ ∀ a, a ≠ 13 → a ≠ 15 → R a = N a := by
    intro m
    induction m with
    | zero => intro j h1 h2; exact absurd h2 (by omega)
    | succ m ih =>
      intro j h1 h2 N hN g16 g12
      have e : f_X5_readsDeaths_13 fu (m + 1) N = s_X5_readsDeaths_13 fu (f_X5_readsDeaths_13 fu m) N := rfl
      rw [e]
      unfold s_X5_readsDeaths_13 f_X5_readsDeaths_52
      rw [g16, gd_in hk (by omega), gd_in hk (by omega), nI_clamp (by omega), g12, hN.2.2, pk_sub (by omega), show p + 1 + j - (p + 1) = j by omega]
      have stop : j = yk T p → ∃ R, some ((1 : Int32), sa N 13 (upd (N 13) k (nI (p + 1 + j)))) = some ((1 : Int32), R) ∧ MX R T n (p + 1 + yk T p) ∧ R 13 = upd (N 13) k (nI (p + 1 + yk T p)) ∧ ∀ a, a ≠ 13 → a ≠ 15 → R a = N a := by
        intro q
        subst q
        exact ⟨_, rfl, ⟨hN.1, hN.2.1, hN.2.2⟩, rfl, fun a h13 _ => sa_ne h13⟩
      by_cases q8 : j = 8
      · rw [if_pos (show (8 : Int32) ≤ nI j by rw [q8]; decide)]
        exact stop (by omega)
      · rw [if_neg (i8 (by omega)), m_dig hT hN fu (by omega)]
        simp only [bd]
        by_cases hd : dg (T (p + 1 + j)) = true
        · rw [if_pos hd, if_neg n10, nI_1]
          have hj : j < yk T p := by
            rcases Nat.lt_or_ge j (yk T p) with w | w
            · exact w
            · have hjj : j = yk T p := by omega
              have := yk_nd (T := T) (p := p) (by omega)
              rw [← hjj, hd] at this; cases this
          obtain ⟨R, r1, r2, r3, r4⟩ := ih (j + 1) (by omega) (by omega) (sa N 15 (fun _ => nI (p + 1 + j + 1))) (MX_go hN (p + 1 + (j + 1))) g16 g12
          exact ⟨R, r1, r2, r3, fun a h13 h15 => (r4 a h13 h15).trans (sa_ne h15)⟩
        · rw [if_neg hd, if_pos rfl]
          refine stop ?_
          rcases Nat.lt_or_ge j (yk T p) with w | w
          · exact absurd (yk_dg w) hd
          · omega
  obtain ⟨R, r1, r2, r3, r4⟩ := go fu 0 (by omega) (by omega) (sa M 12 (upd (M 12) k (nI (p + 1)))) ⟨hX.1, hX.2.1, hX.2.2⟩ h16 pk_us
  refine ⟨R, r1, r2, ?_, ?_, fun i hi => ⟨?_, ?_⟩, fun a h12 h13 h15 => (r4 a h13 h15).trans (sa_ne h12)⟩
  · rw [r4 12 (by decide) (by decide)]; exact pk_us
  · rw [r3]; exact pk_us
  · rw [r4 12 (by decide) (by decide)]; exact pk_un hi
  · rw [r3]; exact pk_un hi
/-- what a statement leaves to be played -/
def SD (T : Nat → Nat) (p k : Nat) (N : S32) : Prop := N 9 k = nI (T p) ∧ N 10 k = nI p ∧ (T p = 108 → N 11 (3 * k) = nI (kd (T (p + 1))) ∧ N 11 (3 * k + 1) = nI (ag T p) ∧ N 11 (3 * k + 2) = nI (T (cm T p + 1) - 48)) ∧ (T p = 119 → N 11 (3 * k) = nI (T (p + 1) - 48) ∧ N 11 (3 * k + 1) = nI (T (p + 2) - 48)) ∧ (T p = 121 → N 12 k = nI (p + 1) ∧ N 13 k = nI (p + 1 + yk T p))
def FS (M N : S32) : Prop := ∀ a, a ≠ 9 → a ≠ 10 → a ≠ 11 → a ≠ 12 → a ≠ 13 → a ≠ 15 → N a = M a
def FK (k : Nat) (M N : S32) : Prop := (∀ i, i ≠ k → N 9 i = M 9 i ∧ N 10 i = M 10 i ∧ N 12 i = M 12 i ∧ N 13 i = M 13 i) ∧ ∀ i, i < 3 * k → N 11 i = M 11 i
theorem st_tail {fu : Nat} {N : S32} {T : Nat → Nat} {n q : Nat} (hT : TX T n) (hX : MX N T n q) (hq : q < 900) : f_X5_statement_117 fu 1 N = some (if T q = 59 then 1 else 0, if T q = 59 then sa N 15 (fun _ => nI (q + 1)) else N) := by
  unfold f_X5_statement_117
  rw [if_neg n10, m_next hT hX fu (by omega)]
  simp only [bd]
  by_cases h : T q = 59
  · rw [if_pos (show chI (T q) = 59 from (ch_eq (c := 59) (TX_le hT _) (by omega)).mpr h), if_pos h, if_pos h, hX.2.2, nI_1]
  · rw [if_neg (show ¬ chI (T q) = 59 from fun w => h ((ch_eq (c := 59) (TX_le hT _) (by omega)).mp w)), if_neg h, if_neg h]
theorem st_tail0 {fu : Nat} {N : S32} : f_X5_statement_117 fu 0 N = some (0, N) := by
  unfold f_X5_statement_117
  rw [if_pos rfl]
