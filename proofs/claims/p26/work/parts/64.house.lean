/-! statement by statement: where each begins -/
def ps (T : Nat → Nat) : Nat → Nat
  | 0 => 0
  | k + 1 => fe T (ps T k) + 1
def AG (T : Nat → Nat) (k : Nat) : Prop := ∀ j, j < k → gs T (ps T j) = true
theorem ps_in {T : Nat → Nat} {n : Nat} (hT : TX T n) : ∀ k, AG T k → 2 * k ≤ ps T k ∧ ps T k ≤ n
  | 0, _ => ⟨Nat.le_refl 0, Nat.zero_le _⟩
  | k + 1, h => by
    have ih := ps_in hT k (fun j hj => h j (by omega))
    have hg := h k (by omega)
    have h1 := gs_n hT hg
    have h2 := (gs_59 hg).2.1
    show 2 * (k + 1) ≤ fe T (ps T k) + 1 ∧ fe T (ps T k) + 1 ≤ n
    omega
theorem ps_lt {T : Nat → Nat} {n : Nat} (hT : TX T n) {k : Nat} (hg : gs T (ps T k) = true) : ps T k < n := by
  have h1 := gs_n hT hg
  have h2 := (gs_59 hg).2.1
  omega
theorem fm_chain {fu : Nat} {SL : S32} {T : Nat → Nat} {n : Nat} (hT : TX T n) (hL : LX SL T n) {r : Int32} : ∀ k, AG T k → FM fu SL n 0 (ps T k) r → FM fu SL n 0 0 r
  | 0, _, h => h
  | k + 1, ha, h => by
    have hg := ha k (by omega)
    refine fm_chain hT hL k (fun j hj => ha j (by omega)) ?_
    rcases fm_st (fu := fu) hT hL (ps_lt hT hg) with ⟨-, q⟩ | ⟨q, -⟩
    · exact q r h
    · rw [hg] at q; cases q
/-- the text can't go on behind k statements -/
def BD (T : Nat → Nat) (n k : Nat) : Prop := AG T k ∧ gs T (ps T k) = false ∧ (ps T k < n ∨ k = 0)
def GD (T : Nat → Nat) (n K : Nat) : Prop := AG T K ∧ 1 ≤ K ∧ ps T K = n
theorem fe_256 {T : Nat → Nat} {p : Nat} (h : T p = 256) : fe T p = p := by
  unfold fe
  rw [if_neg (by omega), if_neg (by omega), if_neg (by omega)]
theorem c_bad {fu : Nat} {SL : S32} {T : Nat → Nat} {n : Nat} (hT : TX T n) (hL : LX SL T n) {k : Nat} (h : BD T n k) (hfu : 100 ≤ fu) : f_X2_firstMisfit fu SL = some (nI (fe T (ps T k))) ∧ fe T (ps T k) ≤ n := by
  obtain ⟨ha, hg, hk⟩ := h
  have hn := hT.1
  by_cases hp : ps T k < n
  · rcases fm_st (fu := fu) hT hL hp with ⟨q, -⟩ | ⟨-, q1, q2⟩
    · rw [hg] at q; cases q
    · exact ⟨fm_chain hT hL k ha q2 fu (by omega), q1⟩
  · obtain rfl : k = 0 := hk.resolve_left hp
    have hp : ¬ 0 < n := hp
    obtain rfl : n = 0 := by omega
    have e : fe T (ps T 0) = 0 := fe_256 (p := 0) (hT.2.2 0 (by omega))
    rw [e]
    exact ⟨fm_empty hL fu (by omega), Nat.le_refl 0⟩
theorem c_good {fu : Nat} {SL : S32} {T : Nat → Nat} {n : Nat} (hT : TX T n) (hL : LX SL T n) {K : Nat} (h : GD T n K) (hfu : 100 ≤ fu) : f_X2_firstMisfit fu SL = some (-1) := by
  obtain ⟨ha, hK, hn⟩ := h
  have h80 := hT.1
  have h2 := ps_in hT K ha
  refine fm_chain (fu := fu) hT hL K ha ?_ fu (by omega)
  rw [hn]
  exact fm_end hT hL (by omega)
/-! how many statements -/
def SC (fu : Nat) (SL : S32) (n c p : Nat) (r : Int32) : Prop := ∀ m, n < m + p → f_X2_statements_4 fu SL m (nI c) (nI p) = some r
theorem sc_step {fu : Nat} {SL : S32} {T : Nat → Nat} {n : Nat} (hT : TX T n) (hL : LX SL T n) {c p : Nat} {r : Int32} (hp : p < n) (h : SC fu SL n (if T p = 59 then c + 1 else c) (p + 1) r) : SC fu SL n c p r := by
  intro m hm
  have hn := hT.1
  obtain ⟨m, rfl⟩ : ∃ m', m = m' + 1 := ⟨m - 1, by omega⟩
  show s_X2_statements_4 fu (f_X2_statements_4 fu SL m) SL (nI c) (nI p) = some r
  unfold s_X2_statements_4
  rw [hL.1, if_neg (nI_ge hp (by omega)), c_let hT hL fu (by omega)]
  simp only [bd]
  by_cases q : T p = 59
  · rw [if_pos (show chI (T p) = 59 from (ch_eq (c := 59) (TX_le hT _) (by omega)).mpr q), nI_1, nI_1]
    rw [if_pos q] at h
    exact h m (by omega)
  · rw [if_neg (show ¬ chI (T p) = 59 from fun w => q ((ch_eq (c := 59) (TX_le hT _) (by omega)).mp w)), nI_1]
    rw [if_neg q] at h
    exact h m (by omega)
theorem sc_end {fu : Nat} {SL : S32} {T : Nat → Nat} {n : Nat} (hT : TX T n) (hL : LX SL T n) {c : Nat} : SC fu SL n c n (nI c) := by
  intro m hm
  have hn := hT.1
  obtain ⟨m, rfl⟩ : ∃ m', m = m' + 1 := ⟨m - 1, by omega⟩
  show s_X2_statements_4 fu (f_X2_statements_4 fu SL m) SL (nI c) (nI n) = some (nI c)
  unfold s_X2_statements_4
  rw [hL.1, if_pos (nI_le (Nat.le_refl _) (by omega))]
theorem sc_skips {fu : Nat} {SL : S32} {T : Nat → Nat} {n : Nat} (hT : TX T n) (hL : LX SL T n) {c p e : Nat} {r : Int32} (he : e ≤ n) (hn : ∀ j, p ≤ j → j < e → T j ≠ 59) (h : SC fu SL n c e r) : ∀ d, d ≤ e - p → SC fu SL n c (e - d) r
  | 0, _ => h
  | d + 1, hd => by
    have ih := sc_skips hT hL he hn h d (by omega)
    refine sc_step hT hL (p := e - (d + 1)) (by omega) ?_
    rw [if_neg (hn _ (by omega) (by omega)), show e - (d + 1) + 1 = e - d by omega]
    exact ih
theorem sc_all {fu : Nat} {SL : S32} {T : Nat → Nat} {n : Nat} (hT : TX T n) (hL : LX SL T n) {K : Nat} (h : GD T n K) : ∀ d k, k + d = K → SC fu SL n k (ps T k) (nI K)
  | 0, k, hk => by
    obtain rfl : k = K := by omega
    rw [h.2.2]
    exact sc_end hT hL
  | d + 1, k, hk => by
    have ih := sc_all (fu := fu) hT hL h d (k + 1) (by omega)
    have hg := h.1 k (by omega)
    obtain ⟨g1, g2, g3, g4⟩ := gs_59 hg
    have hf := gs_n hT hg
    have := sc_skips (fu := fu) hT hL (c := k) (r := nI K) (by omega) g4 (sc_step hT hL hf (by rw [if_pos g1]; exact ih)) (fe T (ps T k) - ps T k) (by omega)
    rwa [show fe T (ps T k) - (fe T (ps T k) - ps T k) = ps T k by omega] at this
theorem c_many {fu : Nat} {SL : S32} {T : Nat → Nat} {n : Nat} (hT : TX T n) (hL : LX SL T n) {K : Nat} (h : GD T n K) (hfu : 100 ≤ fu) : f_X2_statements fu SL = some (nI K) := by
  have hn := hT.1
  exact sc_all hT hL h K 0 (by omega) fu (by omega)
/-! the reference reads all -/
theorem SD_fr {T : Nat → Nat} {p j : Nat} {M N : S32} (h : SD T p j M) (h9 : N 9 j = M 9 j) (h10 : N 10 j = M 10 j) (h11 : ∀ i, i < 3 * j + 3 → N 11 i = M 11 i) (h12 : N 12 j = M 12 j) (h13 : N 13 j = M 13 j) : SD T p j N := by
  obtain ⟨a1, a2, a3, a4, a5⟩ := h
  refine ⟨h9.trans a1, h10.trans a2, fun w => ?_, fun w => ?_, fun w => ?_⟩
  · obtain ⟨b1, b2, b3⟩ := a3 w
    exact ⟨(h11 _ (by omega)).trans b1, (h11 _ (by omega)).trans b2, (h11 _ (by omega)).trans b3⟩
  · obtain ⟨b1, b2⟩ := a4 w
    exact ⟨(h11 _ (by omega)).trans b1, (h11 _ (by omega)).trans b2⟩
  · obtain ⟨b1, b2⟩ := a5 w
    exact ⟨h12.trans b1, h13.trans b2⟩
def FRP (M N : S32) : Prop := ∀ a, a < 9 ∨ a = 14 ∨ 17 ≤ a → N a = M a
theorem m_parse {fu : Nat} (hfu : 100 ≤ fu) {T : Nat → Nat} {n : Nat} (hT : TX T n) {M0 : S32} : ∀ m k M, AG T k → 2 * n + 2 < m + 2 * ps T k → MX M T n (ps T k) → M 16 0 = nI k → (∀ j, j < k → SD T (ps T j) j M) → FRP M0 M →
    (∃ k', BD T n k' ∧ ∃ N, f_X5_house_12 fu m 1 M = some (-1000 - nI (fe T (ps T k')), sa N 14 (fun _ => 0)) ∧ FRP M0 N) ∨ ∃ K, GD T n K ∧ ∃ N, f_X5_house_12 fu m 1 M = f_X5_house_60 fu 1 N ∧ FRP M0 N ∧ N 16 0 = nI K ∧ ∀ j, j < K → SD T (ps T j) j N := by
  intro m
  induction m with
  | zero => intro k M ha hm; have := (ps_in hT k ha).2; exact absurd hm (by omega)
  | succ m ih =>
    intro k M ha hm hX h16 hD hF
    obtain ⟨hk2, hkn⟩ := ps_in hT k ha
    have hn := hT.1
    have e : f_X5_house_12 fu (m + 1) 1 M = s_X5_house_12 fu (f_X5_house_12 fu m) 1 M := rfl
    rw [e]
    unfold s_X5_house_12 f_X5_house_34 f_X5_house_53
    rw [if_neg n10, hX.1, hX.2.2, h16]
    by_cases hc : ps T k < n ∨ k = 0
    · have hk40 : k < 40 := by omega
      obtain ⟨N, r1, r2, r3, r4⟩ := m_st (fu := fu) hfu hT hX (by omega) hk40 h16
      have hN16 : N 16 0 = nI k := by rw [r3 16 (by decide) (by decide) (by decide) (by decide) (by decide) (by decide)]; exact h16
      have hF2 : FRP M0 N := fun a h => (r3 a (by omega) (by omega) (by omega) (by omega) (by omega) (by omega)).trans (hF a h)
      rw [r1]
      simp only [bd]
      have body : ∀ X : Option (Int32 × S32), (if nI (ps T k) < nI n then X else if nI k = 0 then X else f_X5_house_60 fu 1 M) = X := by
        intro X
        by_cases q : ps T k < n
        · rw [if_pos (nI_lt q (by omega))]
        · rw [if_neg (nI_nlt (by omega) (by omega))]
          rcases hc with hc | hc
          · exact absurd hc q
          · rw [if_pos (show nI k = 0 by rw [hc]; rfl)]
      rw [body]
      by_cases hg : gs T (ps T k) = true
      · rw [if_pos hg, if_neg n10, hN16, nI_1]
        rw [if_pos hg] at r2
        obtain ⟨⟨f1, f2⟩, sd⟩ := r4 hg
        have ha2 : AG T (k + 1) := fun j hj => by
          rcases Nat.lt_or_ge j k with q | q
          · exact ha j q
          · obtain rfl : j = k := by omega
            exact hg
        have hgt := (gs_59 hg).2.1
        refine ih (k + 1) _ ha2 (by show 2 * n + 2 < m + 2 * (fe T (ps T k) + 1); omega) ⟨?_, ?_, ?_⟩ rfl (fun j hj => ?_) (fun a h => (sa_ne (by omega)).trans (hF2 a h))
        · show N 14 0 = nI n
          rw [r3 14 (by decide) (by decide) (by decide) (by decide) (by decide) (by decide)]; exact hX.1
        · show ∀ i, i < n → N 8 i = nI (T i)
          rw [r3 8 (by decide) (by decide) (by decide) (by decide) (by decide) (by decide)]; exact hX.2.1
        · exact r2
        · rcases Nat.lt_or_ge j k with q | q
          · obtain ⟨w9, w10, w12, w13⟩ := f1 j (by omega)
            exact SD_fr (hD j q) w9 w10 (fun i hi => f2 i (by omega)) w12 w13
          · obtain rfl : j = k := by omega
            exact SD_fr sd rfl rfl (fun _ _ => rfl) rfl rfl
      · have hg : gs T (ps T k) = false := by simpa using hg
        rw [hg] at r2 ⊢
        rw [if_neg (by decide)] at r2
        rw [show (if false = true then (1 : Int32) else 0) = 0 from rfl, if_pos rfl]
        left
        refine ⟨k, ⟨ha, hg, hc⟩, sa N 16 (fun _ => N 16 0 + 0), ?_, fun a h => (sa_ne (by omega)).trans (hF2 a h)⟩
        obtain ⟨m, rfl⟩ : ∃ m', m = m' + 1 := ⟨m - 1, by omega⟩
        show s_X5_house_12 fu (f_X5_house_12 fu m) 0 _ = _
        unfold s_X5_house_12 f_X5_house_60
        rw [if_pos rfl, if_pos rfl]
        show some ((-1000 : Int32) - N 15 0, _) = _
        rw [r2]
    · have hnk : ps T k = n ∧ 1 ≤ k := by omega
      right
      refine ⟨k, ⟨ha, hnk.2, hnk.1⟩, M, ?_, hF, h16, hD⟩
      rw [if_neg (nI_nlt (by omega) (by omega)), if_neg (fun w => by have := (nI_z (by omega)).mp w; omega)]
theorem SD_FP {T : Nat → Nat} {p j : Nat} {M N : S32} (h : SD T p j M) (f : FP M N) : SD T p j N :=
  SD_fr h (by rw [f 9 (by omega) (by omega)]) (by rw [f 10 (by omega) (by omega)]) (fun i _ => by rw [f 11 (by omega) (by omega)]) (by rw [f 12 (by omega) (by omega)]) (by rw [f 13 (by omega) (by omega)])
/-! both play -/
theorem h_play {fu : Nat} (hfu : 100 ≤ fu) {SL : S32} {T : Nat → Nat} {n : Nat} (hT : TX T n) (hL : LX SL T n) {K : Nat} (hK : GD T n K) {M1 : S32} (h16 : M1 16 0 = nI K) (hD : ∀ j, j < K → SD T (ps T j) j M1) (h8 : ∀ i, i < n → M1 8 i = nI (T i)) : ∀ d k ST M A, k + d = K → GA A ST M → FP M1 M →
    ∃ (r o : Int32 × S32), PLY fu SL n (ps T k) (ps T k) ST r ∧ (∀ m, d < m → f_X5_house_86 fu m (nI k) M = some o) ∧ ((r.1 = -1 ∧ o.1 = nI K ∧ FP M1 o.2 ∧ ∃ A2, GA A2 r.2 o.2) ∨ ∃ j, j < K ∧ r.1 = nI (ps T j) ∧ o.1 = -2000 - nI (ps T j) ∧ ∃ N, FP M1 N ∧ f_X5_passesAll fu N 1 0 = some o.2) := by
  have h80 := hT.1
  have hK40 : K ≤ 40 := by have := ps_in hT K hK.1; omega
  intro d
  induction d with
  | zero =>
    intro k ST M A hk hG hF
    obtain rfl : k = K := by omega
    refine ⟨(-1, ST), (nI k, M), ?_, fun m hm => ?_, Or.inl ⟨rfl, rfl, hF, A, hG⟩⟩
    · rw [hK.2.2]; exact po_end hT hL
    · obtain ⟨m, rfl⟩ : ∃ m', m = m' + 1 := ⟨m - 1, by omega⟩
      show s_X5_house_86 fu (f_X5_house_86 fu m) (nI k) M = _
      unfold s_X5_house_86 f_X5_house_128
      rw [hF 16 (by omega) (by omega), h16, if_pos (nI_le (Nat.le_refl _) (by omega))]
  | succ d ih =>
    intro k ST M A hk hG hF
    have hg := hK.1 k (by omega)
    obtain ⟨g1, g2, g3, g4⟩ := gs_59 hg
    have hf := gs_n hT hg
    have hp := ps_lt hT hg
    have hM8 : ∀ i, i < n → M 8 i = nI (T i) := fun i hi => by rw [hF 8 (by omega) (by omega)]; exact h8 i hi
    have hsd := SD_FP (hD k (by omega)) hF
    have step : ∀ (m : Nat) (o : Int32 × S32), f_X5_comes fu M (nI k) = some o → f_X5_house_86 fu (m + 1) (nI k) M = if o.1 = 0 then f_X5_house_105 fu (nI k) o.2 else f_X5_house_86 fu m (nI (k + 1)) o.2 := by
      intro m o ho
      show s_X5_house_86 fu (f_X5_house_86 fu m) (nI k) M = _
      unfold s_X5_house_86
      rw [hF 16 (by omega) (by omega), h16, if_neg (nI_ge (by omega) (by omega)), ho, nI_1]
      rfl
    have walk : ∀ r, PLY fu SL n (ps T k) (fe T (ps T k)) ST r → PLY fu SL n (ps T k) (ps T k) ST r := fun r h => by
      have := po_skips hT hL (by omega) g4 h (fe T (ps T k) - ps T k) (by omega)
      rwa [show fe T (ps T k) - (fe T (ps T k) - ps T k) = ps T k by omega] at this
    rcases both (fu := fu) hfu hT hL hp hg hG (by omega) hsd hM8 with ⟨S2, e1, e2⟩ | ⟨S2, M2, A2, e1, e2, hG2, hF2⟩
    · obtain ⟨N2, n1, n2, n3⟩ := pa_back fu (by omega) M 1 (Or.inr (Or.inl rfl))
      refine ⟨(nI (ps T k), S2), (-2000 - nI (ps T k), N2), walk _ (po_semi hT hL hp hf g1 e1 (by rw [if_pos rfl])), fun m hm => ?_, Or.inr ⟨k, by omega, rfl, rfl, M, hF, n1⟩⟩
      obtain ⟨m, rfl⟩ : ∃ m', m = m' + 1 := ⟨m - 1, by omega⟩
      rw [step m _ e2, if_pos rfl]
      unfold f_X5_house_105
      rw [show f_X5_passesAll fu M (1 : Int32) (0 : Int32) = some N2 from n1]
      simp only [bd]
      rw [gd_in (by omega) (by omega), nI_clamp (by omega), n2 10 (by decide) (by decide) (by decide) (by decide) (by decide) (by decide) (by decide) (by decide) (by decide), hsd.2.1]
    · obtain ⟨r, o, i1, i2, i3⟩ := ih (k + 1) S2 M2 A2 (by omega) hG2 (fun a h h21 => (hF2 a h h21).trans (hF a h h21))
      refine ⟨r, o, walk _ (po_semi hT hL hp hf g1 e1 (by rw [if_neg n10]; exact i1)), fun m hm => ?_, i3⟩
      obtain ⟨m, rfl⟩ : ∃ m', m = m' + 1 := ⟨m - 1, by omega⟩
      rw [step m _ e2, if_neg n10]
      exact i2 m (by omega)
theorem RLet_0 {SL SM : S32} (h1 : SL 1 0 = 0) (h2 : SM 14 0 = 0) : RLet SL SM := ⟨0, by omega, h1, h2, fun i hi => absurd hi (Nat.not_lt_zero i)⟩
theorem T_house {SV SN SK SL SM : S32} (h : RR SV SN SK SL SM) (SR : S32) (fu : Nat) (hfu : 1000 ≤ fu) : ∃ o1 o2, f_X4_house fu SV SN SR SL = some o1 ∧ f_X5_house fu SM = some o2 ∧ o1.1 = o2.1 ∧ RR SV o1.2.1 SK o1.2.2.2 o2.2 := by
  obtain ⟨A, hA, h99, hC, hM, hDM⟩ := h.1
  have hn8 := hA.1
  obtain ⟨n, hn, l1, l2, hl⟩ := h.2.2.1
  obtain ⟨T, hT, hL, hX8⟩ : ∃ T : Nat → Nat, TX T n ∧ LX SL T n ∧ ∀ i, i < n → SM 8 i = nI (T i) := by
    have key : ∀ i, i < n → (SL 0 i).toNatClampNeg < 256 ∧ SL 0 i = nI (SL 0 i).toNatClampNeg ∧ SM 8 i = nI (SL 0 i).toNatClampNeg := by
      intro i hi
      obtain ⟨v, v1, v2, v3⟩ := hl i hi
      rw [v2, v3, nI_clamp (by omega)]
      exact ⟨by omega, rfl, rfl⟩
    refine ⟨fun i => if i < n then (SL 0 i).toNatClampNeg else 256, ⟨hn, fun i hi => ?_, fun i hi => ?_⟩, ⟨l1, fun i hi => ?_⟩, fun i hi => ?_⟩
    · show (if i < n then (SL 0 i).toNatClampNeg else 256) < 256
      rw [if_pos hi]; exact (key i hi).1
    · show (if i < n then (SL 0 i).toNatClampNeg else 256) = 256
      rw [if_neg (by omega)]
    · show SL 0 i = nI (if i < n then (SL 0 i).toNatClampNeg else 256)
      rw [if_pos hi]; exact (key i hi).2.1
    · show SM 8 i = nI (if i < n then (SL 0 i).toNatClampNeg else 256)
      rw [if_pos hi]; exact (key i hi).2.2
  unfold f_X4_house f_X4_takeHouse f_X5_house f_X2_forget
  rcases m_parse (fu := fu) (by omega) hT (M0 := SM) fu 0 (sa (sa SM 15 (fun _ => (0 : Int32))) 16 (fun _ => (0 : Int32))) (fun j hj => absurd hj (Nat.not_lt_zero j)) (by omega) ⟨l2, hX8, rfl⟩ rfl (fun j hj => absurd hj (Nat.not_lt_zero j)) (fun a ha => by rw [sa_ne (by omega), sa_ne (by omega)]) with ⟨k, hB, N, r1, r2⟩ | ⟨K, hK, N, r1, r2, r3, r4⟩
  · obtain ⟨c1, c2⟩ := c_bad hT hL hB (fu := fu) (by omega)
    rw [r1, c1]
    simp only [bd]
    rw [if_neg (nI_nn (by omega))]
    simp only []
    refine ⟨_, _, rfl, rfl, rfl, RA_fr h.1 (fun a a1 a2 => (sa_ne (by omega)).trans (r2 a (by omega))), RRow_fr h.2.1 rfl rfl (r2 22 (by omega)) (r2 23 (by omega)), RLet_0 rfl rfl, RRef_fr h.2.2.2.1 rfl (r2 0 (by omega)), RIm_frr h.2.2.2.2 rfl (r2 18 (by omega)) (r2 17 (by omega))⟩
  · obtain ⟨T2, t1, t2⟩ := c_like' fu (by omega) SR hn8 hC
    rw [r1, c_good hT hL hK (fu := fu) (by omega)]
    unfold f_X5_house_60
    rw [if_neg n10]
    obtain ⟨N1, n1, n2, n3, n4, n5, n6⟩ := pa_keep fu (by omega) (sa N 14 (fun _ => (0 : Int32))) 1 (Or.inr (Or.inl rfl))
    rw [show f_X5_passesAll fu (sa N 14 (fun _ => (0 : Int32))) (1 : Int32) (1 : Int32) = some N1 from n1]
    simp only [bd]
    rw [if_pos (show (-1 : Int32) < 0 by decide), t1]
    simp only []
    have hMs : MT (sa N 14 (fun _ => (0 : Int32))) A := MT_fr hM (fun a a1 a2 => (sa_ne (by omega)).trans (r2 a (by omega)))
    have fr : ∀ a, a ≠ 6 → a ≠ 7 → a ≠ 14 → a ≠ 17 → a ≠ 19 → a ≠ 20 → N1 a = N a := fun a a6 a7 a14 a17 a19 a20 => (n2 a a6 a7 a17 a19 a20).trans (sa_ne a14)
    have hM1 : MT N1 A := MT_fr0 hMs (fun a _ _ => n2 a (by omega) (by omega) (by omega) (by omega) (by omega)) n3 n4
    have hD1 : DM (N1 1) (N1 2) (A 6 0) := by
      rw [fr 1 (by decide) (by decide) (by decide) (by decide) (by decide) (by decide), fr 2 (by decide) (by decide) (by decide) (by decide) (by decide) (by decide), r2 1 (by omega), r2 2 (by omega)]
      exact hDM
    have hDs : DM ((sa N 14 (fun _ => (0 : Int32))) 1) ((sa N 14 (fun _ => (0 : Int32))) 2) (A 6 0) := by
      show DM (N 1) (N 2) (A 6 0)
      rw [r2 1 (by omega), r2 2 (by omega)]; exact hDM
    have h80 := hT.1
    have hK40 : K ≤ 40 := by have := ps_in hT K hK.1; have := hK.2.2; omega
    obtain ⟨r, o, p1, p2, p3⟩ := h_play (fu := fu) (by omega) hT hL hK (M1 := N1) (by rw [fr 16 (by decide) (by decide) (by decide) (by decide) (by decide) (by decide)]; exact r3) (fun j hj => SD_fr (r4 j hj) (by rw [fr 9 (by decide) (by decide) (by decide) (by decide) (by decide) (by decide)]) (by rw [fr 10 (by decide) (by decide) (by decide) (by decide) (by decide) (by decide)]) (fun i _ => by rw [fr 11 (by decide) (by decide) (by decide) (by decide) (by decide) (by decide)]) (by rw [fr 12 (by decide) (by decide) (by decide) (by decide) (by decide) (by decide)]) (by rw [fr 13 (by decide) (by decide) (by decide) (by decide) (by decide) (by decide)])) (fun i hi => by rw [fr 8 (by decide) (by decide) (by decide) (by decide) (by decide) (by decide), r2 8 (by omega)]; exact hX8 i hi) K 0 T2 N1 A (by omega) ⟨hA, h99, t2, hM1, hD1⟩ (fun _ _ _ => rfl)
    have q1 : f_X2_playOn fu SL T2 = some r := p1 fu (by show n < fu + 0; omega)
    have q2 : f_X5_house_86 fu fu (0 : Int32) N1 = some o := p2 fu (by omega)
    have hN0 : ∀ a, a = 0 ∨ a = 18 ∨ a = 22 ∨ a = 23 → N1 a = SM a := fun a ha => (fr a (by omega) (by omega) (by omega) (by omega) (by omega) (by omega)).trans (r2 a (by omega))
    have hN17 : ∀ i, i < 42 → N1 17 i = SM 17 i := fun i hi => by
      rw [n6 i (by omega)]
      show N 17 i = _
      rw [r2 17 (by omega)]
    have hN14 : N1 14 0 = 0 := by rw [n2 14 (by decide) (by decide) (by decide) (by decide) (by decide)]; rfl
    rw [q1, q2]
    simp only []
    rcases p3 with ⟨z1, z2, z3, A2, z4⟩ | ⟨j, hj, z1, z2, N3, z3, z4⟩
    · obtain ⟨T3, u1, u2⟩ := c_like' fu (by omega) SN z4.1.1 z4.2.2.1
      rw [z1, if_pos (show (-1 : Int32) < 0 by decide), u1]
      simp only []
      rw [c_many hT hL hK (fu := fu) (by omega)]
      refine ⟨_, _, rfl, rfl, z2.symm, ⟨A2, z4.1, z4.2.1, u2, z4.2.2.2.1, z4.2.2.2.2⟩, RRow_fr h.2.1 rfl rfl ?_ ?_, RLet_0 rfl ?_, RRef_fr h.2.2.2.1 rfl ?_, RIm_fr h.2.2.2.2 rfl ?_ ?_⟩
      · rw [z3 22 (by omega) (by omega)]; exact hN0 22 (by omega)
      · rw [z3 23 (by omega) (by omega)]; exact hN0 23 (by omega)
      · rw [z3 14 (by omega) (by omega)]; exact hN14
      · rw [z3 0 (by omega) (by omega)]; exact hN0 0 (by omega)
      · rw [z3 18 (by omega) (by omega)]; exact hN0 18 (by omega)
      · intro i hi
        rw [z3 17 (by omega) (by omega)]; exact hN17 i hi
    · have hpj := (ps_in hT j (fun i hi => hK.1 i (by omega))).2
      rw [z1, if_neg (nI_nn (by omega))]
      obtain ⟨N4, w1, w2, w3⟩ := pa_back fu (by omega) N3 1 (Or.inr (Or.inl rfl))
      have hN4 : o.2 = N4 := by
        have : some o.2 = some N4 := z4.symm.trans w1
        injection this
      have w3' : ∀ k, k < 42 → im N4 k = im (sa N 14 (fun _ => (0 : Int32))) k := fun k hk => by
        rw [w3 k hk, z3 17 (by omega) (by omega)]; exact n5 k hk
      rw [← hN4] at w2 w3'
      have g : ∀ a, a = 0 ∨ a = 18 ∨ a = 22 ∨ a = 23 → o.2 a = SM a := fun a ha => (w2 a (by omega) (by omega) (by omega) (by omega) (by omega) (by omega) (by omega) (by omega) (by omega)).trans ((z3 a (by omega) (by omega)).trans (hN0 a ha))
      refine ⟨_, _, rfl, rfl, z2.symm, ⟨A, hA, h99, hC, (MT_im hn8).mp (MTi_cong hn8 w3' ((MT_im hn8).mpr hMs)), im_DM hn8 (DM_cong hn8 w3' (DM_im hn8 hDs))⟩, RRow_fr h.2.1 rfl rfl (g 22 (by omega)) (g 23 (by omega)), RLet_0 rfl ?_, RRef_fr h.2.2.2.1 rfl (g 0 (by omega)), RIm_fr h.2.2.2.2 rfl (g 18 (by omega)) ?_⟩
      · rw [w2 14 (by decide) (by decide) (by decide) (by decide) (by decide) (by decide) (by decide) (by decide) (by decide), z3 14 (by omega) (by omega)]; exact hN14
      · intro i hi
        rw [w2 17 (by decide) (by decide) (by decide) (by decide) (by decide) (by decide) (by decide) (by decide) (by decide), z3 17 (by omega) (by omega)]; exact hN17 i hi
