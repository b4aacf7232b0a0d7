/-! somebody comes in -/
theorem c_full {T : S32} {A : AB} (hA : OKA A) (hC : CT T A) (fu : Nat) : f_X3_isFull fu T = some (if A 6 0 < 8 then 0 else 1) := by
  have hn := hA.1
  unfold f_X3_isFull
  rw [hC.1]
  by_cases q : A 6 0 < 8
  · rw [if_pos (show nI (A 6 0) < (8 : Int32) from (nI_ltI (b := 8) (by omega) (by omega)).mpr q), if_pos q]
  · rw [if_neg (show ¬ nI (A 6 0) < (8 : Int32) from fun w => q ((nI_ltI (b := 8) (by omega) (by omega)).mp w)), if_neg q]
theorem c_could {T : S32} {A : AB} (hA : OKA A) (hC : CT T A) (fu : Nat) (hfu : 9 ≤ fu) {k a : Nat} (hk : k ≤ 5) (ha : a ≤ 99) : f_X3_couldComeIn fu T (nI k) (nI a) = some (if A 6 0 < 8 ∧ wh A (ef k a) = 8 then 1 else 0) := by
  have hw := wh_le A (ef k a)
  unfold f_X3_couldComeIn
  rw [c_full hA hC fu]
  simp only [bd]
  by_cases q : A 6 0 < 8
  · rw [if_pos q, if_pos rfl, c_ef fu hk ha]
    simp only []
    rw [c_who hA hC fu hfu (ef_le k (by omega) a (by omega))]
    simp only []
    by_cases q2 : wh A (ef k a) = 8
    · rw [if_neg (show ¬ wh A (ef k a) < 8 by omega), if_neg (by decide), if_pos ⟨q, q2⟩]
    · rw [if_pos (show wh A (ef k a) < 8 by omega), if_pos (nI_p (by omega)), if_neg (fun w => q2 w.2)]
  · rw [if_neg q, if_neg n10, if_neg (fun w => q w.1)]
/-- the state behind somebody's coming in -/
def nw (A : AB) (k a l : Nat) : AB := fun f i => if f = 6 then A 6 0 + 1 else if i = A 6 0 then (if f = 0 then k else if f = 1 then a else if f = 2 then ef k a else if f = 3 then l else if f = 4 then 10 else if f = 5 then 1 else A f i) else A f i
theorem nw_old (A : AB) (k a l : Nat) {f i : Nat} (hf : f ≠ 6) (hi : i ≠ A 6 0) : nw A k a l f i = A f i := by
  unfold nw; rw [if_neg hf, if_neg hi]
theorem al_nw {A : AB} {k a l i : Nat} : al (nw A k a l) i = (al A i || decide (i = A 6 0)) := by
  have e6 : nw A k a l 6 0 = A 6 0 + 1 := by unfold nw; rw [if_pos rfl]
  unfold al
  rw [e6]
  by_cases q : i = A 6 0
  · have e5 : nw A k a l 5 i = 1 := by unfold nw; rw [if_neg (by decide), if_pos q]; rfl
    rw [e5]; simp [q]
  · rw [nw_old A k a l (by decide) q]
    have : (i < A 6 0 + 1) ↔ i < A 6 0 := by omega
    simp [q, this]
theorem nw_7 (A : AB) (k a l : Nat) : nw A k a l 7 0 = A 7 0 := by
  unfold nw; rw [if_neg (by decide)]
  split
  · rfl
  · rfl
theorem OKA_nw {A : AB} (hA : OKA A) {k a l : Nat} (h8 : A 6 0 < 8) (hk : k ≤ 5) (ha : a ≤ 99) (hl : l ≤ 9) (hw : wh A (ef k a) = 8) : OKA (nw A k a l) := by
  have hno := (wh_no hA).mp hw
  have e2 : nw A k a l 2 (A 6 0) = ef k a := by unfold nw; rw [if_neg (by decide), if_pos rfl]; rfl
  refine ⟨?_, ?_, ?_⟩
  · unfold nw; rw [if_pos rfl]; omega
  · intro i hi
    rw [al_nw, Bool.or_eq_true, decide_eq_true_eq] at hi
    by_cases q : i = A 6 0
    · subst q
      have := ef_le k (by omega) a (by omega)
      refine ⟨?_, ?_, ?_, ?_, ?_⟩ <;> (unfold nw; rw [if_neg (by decide), if_pos rfl])
      · exact hk
      · exact ha
      · exact this
      · exact hl
      · exact Nat.le_refl 10
    · rw [nw_old A k a l (by decide) q, nw_old A k a l (by decide) q, nw_old A k a l (by decide) q, nw_old A k a l (by decide) q, nw_old A k a l (by decide) q]
      exact hA.2.1 i (hi.resolve_right q)
  · intro i j hi hj hf
    rw [al_nw, Bool.or_eq_true, decide_eq_true_eq] at hi hj
    by_cases qi : i = A 6 0
    · by_cases qj : j = A 6 0
      · rw [qi, qj]
      · rw [qi, e2, nw_old A k a l (by decide) qj] at hf
        exact absurd hf.symm (hno j (hj.resolve_right qj))
    · by_cases qj : j = A 6 0
      · rw [qj, e2, nw_old A k a l (by decide) qi] at hf
        exact absurd hf (hno i (hi.resolve_right qi))
      · rw [nw_old A k a l (by decide) qi, nw_old A k a l (by decide) qj] at hf
        exact hA.2.2 i j (hi.resolve_right qi) (hj.resolve_right qj) hf
theorem c_admit {T : S32} {A : AB} (hA : OKA A) (hC : CT T A) (fu : Nat) {k a l : Nat} (h8 : A 6 0 < 8) (hk : k ≤ 5) (ha : a ≤ 99) : ∃ T2, f_X3_admit fu T (nI k) (nI a) (nI l) = some (nI (A 6 0), T2) ∧ CT T2 (nw A k a l) := by
  unfold f_X3_admit
  rw [hC.1, if_neg (nI_nn (by omega)), if_pos (show nI (A 6 0) < (8 : Int32) from (nI_ltI (b := 8) (by omega) (by omega)).mpr h8), gd_in h8 (by omega), gd_in h8 (by omega), c_ef fu hk ha]
  simp only [bd]
  rw [gd_in h8 (by omega), gd_in h8 (by omega), gd_in h8 (by omega), nI_clamp (by omega)]
  refine ⟨_, rfl, ?_, ?_, ?_⟩
  · show nI (A 6 0) + 1 = _
    rw [nI_1]; unfold nw; rw [if_pos rfl]
  · rw [nw_7]; exact hC.2.1
  · intro i hi
    have hi : i < A 6 0 + 1 := by
      have e6 : nw A k a l 6 0 = A 6 0 + 1 := by unfold nw; rw [if_pos rfl]
      omega
    show upd (T 2) (A 6 0) (nI (ef k a)) i = fI (nw A k a l) i ∧ (al (nw A k a l) i = true → upd (T 0) (A 6 0) (nI k) i = nI (nw A k a l 0 i) ∧ upd (T 1) (A 6 0) (nI a) i = nI (nw A k a l 1 i) ∧ upd (T 3) (A 6 0) (nI l) i = nI (nw A k a l 3 i) ∧ upd (T 4) (A 6 0) (-1) i = wC (nw A k a l 4 i))
    by_cases q : i = A 6 0
    · subst q
      rw [pk_us, pk_us, pk_us, pk_us, pk_us]
      refine ⟨?_, fun _ => ⟨?_, ?_, ?_, ?_⟩⟩
      · rw [fI, al_nw]
        simp [nw]
      all_goals simp [nw, wC]
    · rw [pk_un q, pk_un q, pk_un q, pk_un q, pk_un q, nw_old A k a l (by decide) q, nw_old A k a l (by decide) q, nw_old A k a l (by decide) q, nw_old A k a l (by decide) q, fI, al_nw, nw_old A k a l (by decide) q]
      have e : decide (i = A 6 0) = false := by simpa using q
      rw [e, Bool.or_false]
      exact hC.2.2 i (by omega)
theorem m_comesIn {M : S32} {A : AB} (hA : OKA A) (hM : MT M A) (hD : DM (M 1) (M 2) (A 6 0)) (fu : Nat) (hfu : 9 ≤ fu) {k a l : Nat} (hk : k ≤ 5) (ha : a ≤ 99) : (A 6 0 < 8 ∧ wh A (ef k a) = 8 ∧ ∃ M2, f_X5_comesIn fu M (nI k) (nI a) (nI l) = some (1, M2) ∧ MT M2 (nw A k a l) ∧ DM (M2 1) (M2 2) (nw A k a l 6 0) ∧ ∀ b, b ≠ 1 → b ≠ 2 → b ≠ 3 → b ≠ 4 → b ≠ 5 → b ≠ 6 → M2 b = M b) ∨ (¬ (A 6 0 < 8 ∧ wh A (ef k a) = 8) ∧ f_X5_comesIn fu M (nI k) (nI a) (nI l) = some (0, M)) := by
  have hn := hA.1
  have hw := wh_le A (ef k a)
  have e6 : nw A k a l 6 0 = A 6 0 + 1 := by unfold nw; rw [if_pos rfl]
  unfold f_X5_comesIn
  rw [m_ef fu hk ha]
  simp only [bd]
  rw [hM.1]
  by_cases h8 : A 6 0 < 8
  · rw [if_neg (show ¬ nI (A 6 0) = (8 : Int32) from fun w => by have := (nI_eq (b := 8) (by omega) (by omega)).mp w; omega), m_who hA hM fu hfu (ef_le k (by omega) a (by omega))]
    simp only []
    by_cases q : wh A (ef k a) = 8
    · left
      refine ⟨h8, q, ?_⟩
      rw [if_neg (show ¬ wh A (ef k a) < 8 by omega), if_pos (by decide)]
      simp only [gd_in h8 (show 8 < 2 ^ 31 by omega), nI_clamp (show A 6 0 < 2 ^ 31 by omega)]
      refine ⟨_, rfl, ⟨?_, ?_, ?_⟩, ?_, ?_⟩
      · show nI (A 6 0) + 1 = _
        rw [nI_1, e6]
      · rw [nw_7]; exact hM.2.1
      · intro i hi
        show upd (M 3) (A 6 0) (nI (ef k a)) i = fI (nw A k a l) i ∧ (al (nw A k a l) i = true → upd (M 1) (A 6 0) (nI k) i = nI (nw A k a l 0 i) ∧ upd (M 2) (A 6 0) (nI a) i = nI (nw A k a l 1 i) ∧ upd (M 4) (A 6 0) (nI l) i = nI (nw A k a l 3 i) ∧ upd (M 5) (A 6 0) (-9) i = wR (nw A k a l 4 i))
        by_cases q : i = A 6 0
        · subst q
          rw [pk_us, pk_us, pk_us, pk_us, pk_us]
          refine ⟨?_, fun _ => ⟨?_, ?_, ?_, ?_⟩⟩
          · rw [fI, al_nw]
            simp [nw]
          all_goals simp [nw, wR]
        · rw [pk_un q, pk_un q, pk_un q, pk_un q, pk_un q, nw_old A k a l (by decide) q, nw_old A k a l (by decide) q, nw_old A k a l (by decide) q, nw_old A k a l (by decide) q, fI, al_nw, nw_old A k a l (by decide) q]
          have e : decide (i = A 6 0) = false := by simpa using q
          rw [e, Bool.or_false]
          exact hM.2.2 i (by omega)
      · intro i hi
        show ∃ k1 a1, k1 ≤ 5 ∧ a1 ≤ 99 ∧ upd (M 1) (A 6 0) (nI k) i = nI k1 ∧ upd (M 2) (A 6 0) (nI a) i = nI a1
        by_cases q : i = A 6 0
        · subst q
          exact ⟨k, a, hk, ha, pk_us, pk_us⟩
        · rw [pk_un q, pk_un q]
          exact hD i (by omega)
      · intro b b1 b2 b3 b4 b5 b6
        simp [sa_eq, b1, b2, b3, b4, b5, b6]
    · right
      refine ⟨fun w => q w.2, ?_⟩
      rw [if_pos (show wh A (ef k a) < 8 by omega), if_neg (nI_nn (by omega))]
  · right
    refine ⟨fun w => h8 w.1, ?_⟩
    rw [if_pos (show nI (A 6 0) = (8 : Int32) by rw [show A 6 0 = 8 by omega]; rfl)]
theorem T_enter {SV SN SK SL SM : S32} (h : RR SV SN SK SL SM) (fu : Nat) (hfu : 1000 ≤ fu) (x y z : Int32) : ∃ o1 o2, f_X4_enter fu SV SN x y z = some o1 ∧ f_X5_enter fu SM x y z = some o2 ∧ o1.1 = o2.1 ∧ RR o1.2.1 o1.2.2 SK SL o2.2 := by
  obtain ⟨A, hA, h99, hC, hM, hD⟩ := h.1
  have hn := hA.1
  obtain ⟨V2, M2, c2, m2, r2⟩ := ref_k h fu (x := -2) (k := 2) rfl (by omega) (by omega)
  obtain ⟨V3, M3, c3, m3, r3⟩ := ref_k h fu (x := -3) (k := 3) rfl (by omega) (by omega)
  obtain ⟨V4, M4, c4, m4, r4⟩ := ref_k h fu (x := -4) (k := 4) rfl (by omega) (by omega)
  obtain ⟨V6, M6, c6, m6, r6⟩ := ref_k h fu (x := -6) (k := 6) rfl (by omega) (by omega)
  have e71 : ∀ (y0 : Int32) M, ¬ y0 = 0 → f_X5_no fu SM y0 = some (y0, M) → f_X5_enter_71 fu x y z y0 SM = some (y0, M) := by
    intro y0 M h0 he
    unfold f_X5_enter_71
    rw [if_neg h0, he]; rfl
  unfold f_X4_enter f_X5_enter f_X5_enter_22 f_X5_enter_48 f_X4_enter_22 f_X4_enter_51
  rw [e71 (-4) M4 (by decide) m4, e71 (-6) M6 (by decide) m6, e71 (-2) M2 (by decide) m2, e71 (-3) M3 (by decide) m3, c2, c3, c4, c6]
  rcases kind_any fu x with ⟨k, hk, rfl, e1, e2⟩ | ⟨e1, e2⟩
  · rw [e1, e2]
    simp only [bd]
    rw [if_neg n10, if_neg n10]
    by_cases hy0 : y < 0
    · rw [if_pos hy0, if_pos hy0]; exact ⟨_, _, rfl, rfl, rfl, r4⟩
    · rw [if_neg hy0, if_neg hy0]
      by_cases hz0 : (0 : Int32) ≤ z
      · rw [if_pos hz0, if_pos hz0]
        obtain ⟨a, ha, rfl⟩ := nI_of hy0
        obtain ⟨l, hl, rfl⟩ := nI_of (x := z) (fun w => by
          have w1 := (fa_lt _ _).mp w
          have w2 := (fa_le _ _).mp hz0
          omega)
        by_cases qa : (99 : Int32) < nI a
        · rw [if_pos qa, if_pos qa]; exact ⟨_, _, rfl, rfl, rfl, r6⟩
        · rw [if_neg qa, if_neg qa]
          have ha9 : a ≤ 99 := by
            rcases Nat.lt_or_ge 99 a with w | w
            · exact absurd ((nI_ltI (a := 99) (by omega) ha).mpr w) qa
            · exact w
          by_cases ql : (9 : Int32) < nI l
          · rw [if_pos ql, if_pos ql]; exact ⟨_, _, rfl, rfl, rfl, r6⟩
          · rw [if_neg ql, if_neg ql]
            have hl9 : l ≤ 9 := by
              rcases Nat.lt_or_ge 9 l with w | w
              · exact absurd ((nI_ltI (a := 9) (by omega) hl).mpr w) ql
              · exact w
            rw [c_full hA hC fu, hM.1]
            simp only []
            by_cases h8 : A 6 0 < 8
            · have hw := wh_le A (ef k a)
              rw [if_pos h8, if_pos rfl, if_neg (show ¬ nI (A 6 0) = (8 : Int32) from fun w => by have := (nI_eq (b := 8) (by omega) (by omega)).mp w; omega), c_could hA hC fu (by omega) hk ha9, m_ef fu hk ha9]
              simp only []
              rw [m_who hA hM fu (by omega) (ef_le k (by omega) a (by omega))]
              simp only []
              rcases m_comesIn hA hM hD fu (by omega) (l := l) hk ha9 with ⟨-, w8, N2, g1, g2, g3, g4⟩ | ⟨g1, g2⟩
              · obtain ⟨T2, t1, t2⟩ := c_admit hA hC fu (l := l) h8 hk ha9
                have e6 : nw A k a l 6 0 = A 6 0 + 1 := by unfold nw; rw [if_pos rfl]
                rw [if_pos (show A 6 0 < 8 ∧ wh A (ef k a) = 8 from ⟨h8, w8⟩), if_neg n10, t1, if_neg (show ¬ wh A (ef k a) < 8 by omega), if_pos (show (-9 : Int32) < 0 by decide)]
                unfold f_X5_enter_71
                rw [if_pos rfl, g1]
                refine ⟨_, _, rfl, rfl, ?_, ⟨nw A k a l, OKA_nw hA h8 hk ha9 hl9 w8, by rw [nw_7]; exact h99, t2, g2, g3⟩, RRow_fr h.2.1 rfl rfl (g4 22 (by decide) (by decide) (by decide) (by decide) (by decide) (by decide)) (g4 23 (by decide) (by decide) (by decide) (by decide) (by decide) (by decide)), RLet_fr h.2.2.1 (g4 8 (by decide) (by decide) (by decide) (by decide) (by decide) (by decide)) (g4 14 (by decide) (by decide) (by decide) (by decide) (by decide) (by decide)), RRef_fr h.2.2.2.1 rfl (g4 0 (by decide) (by decide) (by decide) (by decide) (by decide) (by decide)), RIm_frr h.2.2.2.2 rfl (g4 18 (by decide) (by decide) (by decide) (by decide) (by decide) (by decide)) (g4 17 (by decide) (by decide) (by decide) (by decide) (by decide) (by decide))⟩
                show nI (A 6 0) = N2 6 0 - 1
                rw [g2.1, e6, nI_pred]
              · have q8 : wh A (ef k a) < 8 := by
                  rcases Nat.lt_or_ge (wh A (ef k a)) 8 with w | w
                  · exact w
                  · exact absurd ⟨h8, by omega⟩ g1
                rw [if_neg g1, if_pos rfl, if_pos q8, if_neg (nI_nn (by omega))]
                exact ⟨_, _, rfl, rfl, rfl, r3⟩
            · rw [if_neg h8, if_neg n10, if_pos (show nI (A 6 0) = (8 : Int32) by rw [show A 6 0 = 8 by omega]; rfl)]
              exact ⟨_, _, rfl, rfl, rfl, r6⟩
      · rw [if_neg hz0, if_neg hz0]; exact ⟨_, _, rfl, rfl, rfl, r4⟩
  · rw [e1, e2]
    simp only [bd, ↓reduceIte]
    exact ⟨_, _, rfl, rfl, rfl, r2⟩
/-! wishes -/
def ws (A : AB) (i w : Nat) : AB := fun f j => if f = 4 ∧ j = i then w else A f j
theorem al_ws (A : AB) (i w j : Nat) : al (ws A i w) j = al A j := rfl
theorem OKA_ws {A : AB} (hA : OKA A) {i w : Nat} (hw : w ≤ 10) : OKA (ws A i w) := by
  refine ⟨hA.1, fun j hj => ?_, fun a b ha hb hf => hA.2.2 a b ha hb hf⟩
  obtain ⟨h0, h1, h2, h3, h4⟩ := hA.2.1 j hj
  refine ⟨h0, h1, h2, h3, ?_⟩
  unfold ws
  split
  · exact hw
  · exact h4
theorem CT_ws {T : S32} {A : AB} (hC : CT T A) {i w : Nat} : CT (sa T 4 (upd (T 4) i (wC w))) (ws A i w) := by
  refine ⟨hC.1, hC.2.1, fun j hj => ⟨(hC.2.2 j hj).1, fun ha => ?_⟩⟩
  obtain ⟨e1, e2, e3, e4⟩ := (hC.2.2 j hj).2 ha
  refine ⟨e1, e2, e3, ?_⟩
  show upd (T 4) i (wC w) j = wC (ws A i w 4 j)
  by_cases q : j = i
  · subst q
    rw [pk_us]; unfold ws; rw [if_pos ⟨rfl, rfl⟩]
  · rw [pk_un q]; unfold ws; rw [if_neg (fun w => q w.2)]; exact e4
theorem MT_ws {M : S32} {A : AB} (hM : MT M A) {i w : Nat} : MT (sa M 5 (upd (M 5) i (wR w))) (ws A i w) := by
  refine ⟨hM.1, hM.2.1, fun j hj => ⟨(hM.2.2 j hj).1, fun ha => ?_⟩⟩
  obtain ⟨e1, e2, e3, e4⟩ := (hM.2.2 j hj).2 ha
  refine ⟨e1, e2, e3, ?_⟩
  show upd (M 5) i (wR w) j = wR (ws A i w 4 j)
  by_cases q : j = i
  · subst q
    rw [pk_us]; unfold ws; rw [if_pos ⟨rfl, rfl⟩]
  · rw [pk_un q]; unfold ws; rw [if_neg (fun w => q w.2)]; exact e4
theorem T_wish {SV SN SK SL SM : S32} (h : RR SV SN SK SL SM) (fu : Nat) (hfu : 1000 ≤ fu) (x y : Int32) : ∃ o1 o2, f_X4_wish fu SV SN x y = some o1 ∧ f_X5_wish fu SM x y = some o2 ∧ o1.1 = o2.1 ∧ RR o1.2.1 o1.2.2 SK SL o2.2 := by
  obtain ⟨A, hA, h99, hC, hM, hD⟩ := h.1
  have hn := hA.1
  obtain ⟨V1, M1, c1, m1, r1⟩ := ref_k h fu (x := -1) (k := 1) rfl (by omega) (by omega)
  have key : ∀ i w, i < 8 → al A i = true → w ≤ 10 → RR SV (sa SN 4 (upd (SN 4) i (wC w))) SK SL (sa SM 5 (upd (SM 5) i (wR w))) := fun i w _ _ hw => ⟨⟨ws A i w, OKA_ws hA hw, h99, CT_ws hC, MT_ws hM, hD⟩, RRow_fr h.2.1 rfl rfl rfl rfl, RLet_fr h.2.2.1 rfl rfl, RRef_fr h.2.2.2.1 rfl rfl, RIm_frr h.2.2.2.2 rfl rfl rfl⟩
  unfold f_X4_wish f_X5_wish f_X4_wish_35 f_X5_wish_20 f_X5_wish_26 f_X5_wish_48
  rcases alive_any hA hC hM fu x with ⟨i, hi, rfl, ha, e1, e2⟩ | ⟨e1, e2⟩
  · rw [e1, e2, c_wish hA hC fu ha]
    obtain ⟨-, -, -, a4⟩ := (hC.2.2 i (al_lt ha)).2 ha
    obtain ⟨-, -, -, p4⟩ := (hM.2.2 i (al_lt ha)).2 ha
    simp only [bd]
    rw [if_neg n10, if_neg n10]
    simp only [gd_in hi (show 8 < 2 ^ 31 by omega), nI_clamp (show i < 2 ^ 31 by omega), p4]
    by_cases q : y = -1
    · subst q
      rw [if_pos rfl, if_pos rfl, if_neg (by decide)]
      exact ⟨_, _, rfl, rfl, rfl, key i 10 hi ha (by omega)⟩
    · rw [if_neg q, if_neg q]
      rcases floor_any fu y with ⟨f, hf, rfl, e3, e4⟩ | ⟨e3, e4, -⟩
      · rw [e3, e4]
        simp only []
        rw [if_neg n10, if_neg n10, if_pos (nI_p (by omega))]
        have k1 := key i f hi ha (by omega)
        rw [show wC f = nI f by unfold wC; rw [if_pos (by omega)], show wR f = nI f by unfold wR; rw [if_pos (by omega)]] at k1
        exact ⟨_, _, rfl, rfl, rfl, k1⟩
      · rw [e3, e4, c1, m1]
        simp only [↓reduceIte]
        exact ⟨_, _, rfl, rfl, rfl, r1⟩
  · rw [e1, e2, c1, m1]
    simp only [bd, ↓reduceIte]
    exact ⟨_, _, rfl, rfl, rfl, r1⟩
/-! a year -/
theorem T_year {SV SN SK SL SM : S32} (h : RR SV SN SK SL SM) (fu : Nat) (hfu : 1000 ≤ fu) (x : Int32) : ∃ o1 o2, f_X4_year fu SV SN x = some o1 ∧ f_X5_year fu SM x = some o2 ∧ o1.1 = o2.1 ∧ RR o1.2.1 o1.2.2 SK SL o2.2 := by
  obtain ⟨A, hA, h99, hC, hM, hD⟩ := h.1
  have hn := hA.1
  obtain ⟨V1, M1, c1, m1, r1⟩ := ref_k h fu (x := -1) (k := 1) rfl (by omega) (by omega)
  obtain ⟨V6, M6, c6, m6, r6⟩ := ref_k h fu (x := -6) (k := 6) rfl (by omega) (by omega)
  unfold f_X4_year f_X5_year
  rcases are_any hA hC hM fu (by omega) x with ⟨s, rfl, hs, e1, e2⟩ | ⟨e1, e2⟩
  · rw [e1, e2]
    simp only [bd]
    rw [if_neg n10, if_neg n10, hC.2.1, hM.2.1]
    by_cases q : A 7 0 = 99
    · rw [if_neg (show ¬ nI (A 7 0) < (99 : Int32) by rw [q]; decide), if_pos (show nI (A 7 0) = (99 : Int32) by rw [q]; rfl), c6, m6]
      exact ⟨_, _, rfl, rfl, rfl, r6⟩
    · rw [if_pos (show nI (A 7 0) < (99 : Int32) from (nI_ltI (b := 99) (by omega) (by omega)).mpr (by omega)), if_neg (show ¬ nI (A 7 0) = (99 : Int32) from fun w => q ((nI_eq (b := 99) (by omega) (by omega)).mp w))]
      obtain ⟨T2, t1, t2⟩ := c_year hA hC fu (by omega) hs
      obtain ⟨N2, g1, g2, g3, g4⟩ := m_year hA hM fu (by omega) hs
      rw [t1, g1]
      refine ⟨_, _, rfl, rfl, rfl, ⟨yr A s, OKA_yr hA hs, ?_, t2, g2, ?_⟩, RRow_fr h.2.1 rfl rfl (g3 22 (by decide) (by decide) (by decide) (by decide)) (g3 23 (by decide) (by decide) (by decide) (by decide)), RLet_fr h.2.2.1 (g3 8 (by decide) (by decide) (by decide) (by decide)) (g3 14 (by decide) (by decide) (by decide) (by decide)), RRef_fr h.2.2.2.1 rfl (g3 0 (by decide) (by decide) (by decide) (by decide)), RIm_frr h.2.2.2.2 rfl (g3 18 (by decide) (by decide) (by decide) (by decide)) (g3 17 (by decide) (by decide) (by decide) (by decide))⟩
      · show A 7 0 + 1 ≤ 99
        omega
      · intro i hi
        have hi : i < A 6 0 := hi
        obtain ⟨k1, a1, d1, d2, d3, d4⟩ := hD i hi
        show ∃ k a, k ≤ 5 ∧ a ≤ 99 ∧ N2 1 i = nI k ∧ N2 2 i = nI a
        rw [show N2 1 = SM 1 from g3 1 (by decide) (by decide) (by decide) (by decide)]
        rcases g4 i hi with w | ⟨-, w⟩
        · exact ⟨k1, a1, d1, d2, d3, w.trans d4⟩
        · exact ⟨k1, _, d1, by omega, d3, w⟩
  · rw [e1, e2, c1, m1]
    simp only [bd, ↓reduceIte]
    exact ⟨_, _, rfl, rfl, rfl, r1⟩
