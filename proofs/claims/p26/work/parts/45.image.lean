/-! image and back -/
theorem c_like (fu : Nat) (hfu : 9 ≤ fu) (T U : S32) : ∃ T2 : S32, f_X3_becomeLike fu T U = some T2 ∧ (∀ a, a ≤ 4 → ∀ i, i < 8 → T2 a i = U a i) ∧ T2 5 0 = U 5 0 ∧ T2 6 0 = U 6 0 := by
  have loop : ∀ (m j : Nat) (S : S32), j ≤ 8 → 8 < m + j → (∀ a, a ≤ 4 → ∀ i, i < j → S a i = U a i) → ∃ T2 : S32, f_X3_becomeLike_2 fu U m (nI j) S = some T2 ∧ (∀ a, a ≤ 4 → ∀ i, i < 8 → T2 a i = U a i) ∧ T2 5 0 = U 5 0 ∧ T2 6 0 = U 6 0 := by
    intro m
    induction m with
    | zero => intro j S h1 h2; exact absurd h2 (by omega)
    | succ m ih =>
      intro j S h1 h2 hS
      show ∃ T2 : S32, s_X3_becomeLike_2 fu (f_X3_becomeLike_2 fu U m) U (nI j) S = some T2 ∧ (∀ a, a ≤ 4 → ∀ i, i < 8 → T2 a i = U a i) ∧ T2 5 0 = U 5 0 ∧ T2 6 0 = U 6 0
      unfold s_X3_becomeLike_2
      rcases Nat.lt_or_ge j 8 with hj | hj
      · rw [if_neg (i8 hj)]
        simp only [gd_in hj (show 8 < 2 ^ 31 by omega), nI_clamp (show j < 2 ^ 31 by omega), nI_1]
        refine ih (j + 1) _ (by omega) (by omega) (fun a ha i hi => ?_)
        rcases (show a = 0 ∨ a = 1 ∨ a = 2 ∨ a = 3 ∨ a = 4 by omega) with rfl | rfl | rfl | rfl | rfl
        · show upd (S 0) j (U 0 j) i = U 0 i
          by_cases q : i = j
          · subst q; exact pk_us
          · rw [pk_un q]; exact hS 0 (by omega) i (by omega)
        · show upd (S 1) j (U 1 j) i = U 1 i
          by_cases q : i = j
          · subst q; exact pk_us
          · rw [pk_un q]; exact hS 1 (by omega) i (by omega)
        · show upd (S 2) j (U 2 j) i = U 2 i
          by_cases q : i = j
          · subst q; exact pk_us
          · rw [pk_un q]; exact hS 2 (by omega) i (by omega)
        · show upd (S 3) j (U 3 j) i = U 3 i
          by_cases q : i = j
          · subst q; exact pk_us
          · rw [pk_un q]; exact hS 3 (by omega) i (by omega)
        · show upd (S 4) j (U 4 j) i = U 4 i
          by_cases q : i = j
          · subst q; exact pk_us
          · rw [pk_un q]; exact hS 4 (by omega) i (by omega)
      · obtain rfl : j = 8 := by omega
        rw [if_pos (show (8 : Int32) ≤ nI 8 by decide)]
        refine ⟨_, rfl, fun a ha i hi => ?_, rfl, rfl⟩
        rcases (show a = 0 ∨ a = 1 ∨ a = 2 ∨ a = 3 ∨ a = 4 by omega) with rfl | rfl | rfl | rfl | rfl <;> exact hS _ (by omega) i hi
  exact loop fu 0 T (by omega) (by omega) (fun _ _ i hi => absurd hi (by omega))
theorem CT_ag {T U : S32} {A : AB} (hn : A 6 0 ≤ 8) (hC : CT U A) (h1 : ∀ a, a ≤ 4 → ∀ i, i < 8 → T a i = U a i) (h5 : T 5 0 = U 5 0) (h6 : T 6 0 = U 6 0) : CT T A := by
  refine ⟨h5.trans hC.1, h6.trans hC.2.1, fun i hi => ?_⟩
  rw [h1 2 (by omega) i (by omega), h1 0 (by omega) i (by omega), h1 1 (by omega) i (by omega), h1 3 (by omega) i (by omega), h1 4 (by omega) i (by omega)]
  exact hC.2.2 i hi
theorem c_like' (fu : Nat) (hfu : 9 ≤ fu) (T : S32) {U : S32} {A : AB} (hn : A 6 0 ≤ 8) (hC : CT U A) : ∃ T2 : S32, f_X3_becomeLike fu T U = some T2 ∧ CT T2 A := by
  obtain ⟨T2, h1, h2, h3, h4⟩ := c_like fu hfu T U
  exact ⟨T2, h1, CT_ag hn hC h2 h3 h4⟩
theorem MTi_cong {c d : Nat → Int32} {A : AB} (hn : A 6 0 ≤ 8) (h : ∀ k, k < 42 → c k = d k) (hM : MTi d A) : MTi c A := by
  refine ⟨(h 40 (by omega)).trans hM.1, (h 41 (by omega)).trans hM.2.1, fun i hi => ?_⟩
  rw [h _ (by omega), h _ (by omega), h _ (by omega), h _ (by omega), h _ (by omega)]
  exact hM.2.2 i hi
theorem MT_fr0 {M M2 : S32} {A : AB} (hM : MT M A) (h : ∀ a, 1 ≤ a → a ≤ 5 → M2 a = M a) (h6 : M2 6 0 = M 6 0) (h7 : M2 7 0 = M 7 0) : MT M2 A := by
  refine ⟨h6.trans hM.1, h7.trans hM.2.1, fun i hi => ?_⟩
  rw [h 1 (by omega) (by omega), h 2 (by omega) (by omega), h 3 (by omega) (by omega), h 4 (by omega) (by omega), h 5 (by omega) (by omega)]
  exact hM.2.2 i hi
theorem DM_im {M : S32} {n : Nat} (hn : n ≤ 8) (h : DM (M 1) (M 2) n) : DM (im M) (fun i => im M (8 + i)) n := by
  intro i hi
  obtain ⟨k, a, q1, q2, q3, q4⟩ := h i hi
  have e1 := im8 M 1 i (by omega) (by omega) (by omega)
  have e2 := im8 M 2 i (by omega) (by omega) (by omega)
  simp at e1 e2
  exact ⟨k, a, q1, q2, e1.trans q3, e2.trans q4⟩
theorem im_DM {M : S32} {n : Nat} (hn : n ≤ 8) (h : DM (im M) (fun i => im M (8 + i)) n) : DM (M 1) (M 2) n := by
  intro i hi
  obtain ⟨k, a, q1, q2, q3, q4⟩ := h i hi
  have e1 := im8 M 1 i (by omega) (by omega) (by omega)
  have e2 := im8 M 2 i (by omega) (by omega) (by omega)
  simp at e1 e2
  exact ⟨k, a, q1, q2, e1.symm.trans q3, e2.symm.trans q4⟩
theorem DM_cong {c d : Nat → Int32} {n : Nat} (hn : n ≤ 8) (h : ∀ k, k < 42 → c k = d k) (hd : DM d (fun i => d (8 + i)) n) : DM c (fun i => c (8 + i)) n := by
  intro i hi
  obtain ⟨k, a, q1, q2, q3, q4⟩ := hd i hi
  exact ⟨k, a, q1, q2, (h i (by omega)).trans q3, (h (8 + i) (by omega)).trans q4⟩
theorem T_image {SV SN SK SL SM : S32} (h : RR SV SN SK SL SM) (fu : Nat) (hfu : 1000 ≤ fu) : ∃ o1 o2, f_X4_image fu SV SN SK = some o1 ∧ f_X5_image fu SM = some o2 ∧ o1.1 = o2.1 ∧ RR o1.2.1 SN o1.2.2 SL o2.2 := by
  obtain ⟨A, hA, h99, hC, hM, hD⟩ := h.1
  have hn := hA.1
  obtain ⟨T2, t1, t2⟩ := c_like' fu (by omega) SK hn hC
  obtain ⟨N, n1, n2, n3, n4, n5, -⟩ := pa_keep fu (by omega) (sa SM 18 (fun _ => (1 : Int32))) 0 (Or.inl rfl)
  unfold f_X4_image f_X5_image
  rw [t1, show f_X5_passesAll fu (sa SM 18 (fun _ => (1 : Int32))) (0 : Int32) (1 : Int32) = some N from n1]
  have hMs : MT (sa SM 18 (fun _ => (1 : Int32))) A := MT_fr hM (fun a _ _ => sa_ne (by omega))
  have fr : ∀ a, a ≠ 6 → a ≠ 7 → a ≠ 17 → a ≠ 18 → a ≠ 19 → a ≠ 20 → N a = SM a := fun a a6 a7 a17 a18 a19 a20 => (n2 a a6 a7 a17 a19 a20).trans (sa_ne a18)
  refine ⟨_, _, rfl, rfl, ?_, ⟨A, hA, h99, hC, MT_fr0 hM (fun a _ _ => fr a (by omega) (by omega) (by omega) (by omega) (by omega) (by omega)) n3 n4, ?_⟩, RRow_fr h.2.1 rfl rfl (fr 22 (by decide) (by decide) (by decide) (by decide) (by decide) (by decide)) (fr 23 (by decide) (by decide) (by decide) (by decide) (by decide) (by decide)), RLet_fr h.2.2.1 (fr 8 (by decide) (by decide) (by decide) (by decide) (by decide) (by decide)) (fr 14 (by decide) (by decide) (by decide) (by decide) (by decide) (by decide)), RRef_fr h.2.2.2.1 rfl (fr 0 (by decide) (by decide) (by decide) (by decide) (by decide) (by decide)), Or.inr ⟨rfl, ?_, A, hA, h99, t2, ?_, ?_⟩⟩
  · show T2 6 0 = N 7 0
    rw [t2.2.1, n4]; exact hM.2.1.symm
  · show DM (N 1) (N 2) (A 6 0)
    rw [fr 1 (by decide) (by decide) (by decide) (by decide) (by decide) (by decide), fr 2 (by decide) (by decide) (by decide) (by decide) (by decide) (by decide)]
    exact hD
  · show N 18 0 = 1
    rw [n2 18 (by decide) (by decide) (by decide) (by decide) (by decide)]; rfl
  · show MTi (N 17) A
    refine MTi_cong hn (fun k hk => ?_) ((MT_im hn).mpr hMs)
    have := n5 k hk
    rwa [show 43 * 0 + k = k by omega] at this
  · show DM (N 17) (fun i => N 17 (8 + i)) (A 6 0)
    refine DM_cong hn (fun k hk => ?_) (DM_im (M := sa SM 18 (fun _ => (1 : Int32))) hn hD)
    have := n5 k hk
    rwa [show 43 * 0 + k = k by omega] at this
theorem T_back {SV SN SK SL SM : S32} (h : RR SV SN SK SL SM) (fu : Nat) (hfu : 1000 ≤ fu) : ∃ o1 o2, f_X4_back fu SV SN SK = some o1 ∧ f_X5_back fu SM = some o2 ∧ o1.1 = o2.1 ∧ RR o1.2.1 o1.2.2 SK SL o2.2 := by
  obtain ⟨V3, M3, c3, m3, r3⟩ := ref_k h fu (x := -3) (k := 3) rfl (by omega) (by omega)
  unfold f_X4_back f_X5_back
  rcases h.2.2.2.2 with ⟨q1, q2⟩ | ⟨q1, q2, A, hA, h99, hC, hM, hD⟩
  · rw [if_pos q1, if_pos q2, c3, m3]
    exact ⟨_, _, rfl, rfl, rfl, r3⟩
  · have hn := hA.1
    obtain ⟨T2, t1, t2⟩ := c_like' fu (by omega) SN hn hC
    obtain ⟨N, n1, n2, n3⟩ := pa_back fu (by omega) SM 0 (Or.inl rfl)
    have n3' : ∀ k, k < 42 → im N k = SM 17 k := fun k hk => by
      have := n3 k hk
      rwa [show 43 * 0 + k = k by omega] at this
    have hN : MT N A := (MT_im hn).mp (MTi_cong hn n3' hM)
    rw [if_neg (by rw [q1]; decide), if_neg (by rw [q2]; decide), t1, show f_X5_passesAll fu SM (0 : Int32) (0 : Int32) = some N from n1]
    refine ⟨_, _, rfl, rfl, ?_, ⟨A, hA, h99, t2, hN, im_DM hn (DM_cong hn n3' hD)⟩, RRow_fr h.2.1 rfl rfl (n2 22 (by decide) (by decide) (by decide) (by decide) (by decide) (by decide) (by decide) (by decide) (by decide)) (n2 23 (by decide) (by decide) (by decide) (by decide) (by decide) (by decide) (by decide) (by decide) (by decide)), RLet_fr h.2.2.1 (n2 8 (by decide) (by decide) (by decide) (by decide) (by decide) (by decide) (by decide) (by decide) (by decide)) (n2 14 (by decide) (by decide) (by decide) (by decide) (by decide) (by decide) (by decide) (by decide) (by decide)), RRef_fr h.2.2.2.1 rfl (n2 0 (by decide) (by decide) (by decide) (by decide) (by decide) (by decide) (by decide) (by decide) (by decide)), RIm_frr h.2.2.2.2 rfl (n2 18 (by decide) (by decide) (by decide) (by decide) (by decide) (by decide) (by decide) (by decide) (by decide)) (n2 17 (by decide) (by decide) (by decide) (by decide) (by decide) (by decide) (by decide) (by decide) (by decide))⟩
    show T2 6 0 = N 7 0
    rw [t2.2.1, hN.2.1]
