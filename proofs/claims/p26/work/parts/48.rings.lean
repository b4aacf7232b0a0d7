/-! rings -/
def nx (A : AB) (c : Nat) : Nat := if c < 8 ∧ A 4 c < 10 then wh A (A 4 c) else 8
def wk (A : AB) (i : Nat) : Nat → Nat → Bool
  | 0, _ => false
  | n + 1, c => if nx A c = 8 then false else if nx A c = i then true else wk A i n (nx A c)
def rg (A : AB) (i : Nat) : Bool := al A i && wk A i 8 i
theorem wk_s (A : AB) (i n c : Nat) : wk A i (n + 1) c = if nx A c = 8 then false else if nx A c = i then true else wk A i n (nx A c) := rfl
theorem nx_al {A : AB} {c : Nat} (h : ¬ nx A c = 8) : al A (nx A c) = true ∧ nx A c < 8 ∧ c < 8 ∧ A 4 c < 10 ∧ A 2 (nx A c) = A 4 c ∧ nx A c = wh A (A 4 c) := by
  unfold nx at h ⊢
  by_cases q : c < 8 ∧ A 4 c < 10
  · rw [if_pos q] at h ⊢
    have hw := wh_le A (A 4 c)
    have hlt : wh A (A 4 c) < 8 := by omega
    obtain ⟨h1, h2⟩ := wh_yes hlt
    exact ⟨h1, hlt, q.1, q.2, h2, rfl⟩
  · rw [if_neg q] at h
    exact absurd rfl h
theorem c_walk {T : S32} {A : AB} (hA : OKA A) (hC : CT T A) (fu : Nat) (hfu : 9 ≤ fu) {i : Nat} (hi : i < 8) : ∀ n t c m, t + n = 8 → al A c = true → 8 < m + t → f_X3_isInRing_4 fu T m (nI i) (nI c) (nI t) = some (if wk A i n c then 1 else 0) := by
  intro n
  induction n with
  | zero =>
    intro t c m ht hc hm
    obtain ⟨m, rfl⟩ : ∃ k, m = k + 1 := ⟨m - 1, by omega⟩
    show s_X3_isInRing_4 fu _ T _ _ _ = _
    unfold s_X3_isInRing_4
    rw [if_pos ((le8 (by omega)).mpr (by omega))]; rfl
  | succ n ih =>
    intro t c m ht hc hm
    obtain ⟨m, rfl⟩ : ∃ k, m = k + 1 := ⟨m - 1, by omega⟩
    have hc8 := al_lt8 hA hc
    have e4 := ((hC.2.2 c (al_lt hc)).2 hc).2.2.2
    show s_X3_isInRing_4 fu (f_X3_isInRing_4 fu T m) T _ _ _ = _
    unfold s_X3_isInRing_4 f_X3_isInRing_34
    rw [if_neg (i8 (by omega)), wk_s]
    simp only [gd_in hc8 (show 8 < 2 ^ 31 by omega), nI_clamp (show c < 2 ^ 31 by omega), e4, nI_1]
    by_cases q : A 4 c < 10
    · have hw := wh_le A (A 4 c)
      have en : nx A c = wh A (A 4 c) := by unfold nx; rw [if_pos ⟨hc8, q⟩]
      rw [show wC (A 4 c) = nI (A 4 c) by unfold wC; rw [if_pos q], if_neg (nI_m1 (by omega)), c_who hA hC fu hfu (by omega)]
      simp only [bd]
      by_cases q8 : nx A c = 8
      · rw [if_pos q8, if_neg (show ¬ wh A (A 4 c) < 8 by omega), if_neg (show ¬ (0 : Int32) ≤ -1 by decide)]; rfl
      · obtain ⟨h1, h2, -⟩ := nx_al q8
        rw [if_neg q8, if_pos (show wh A (A 4 c) < 8 by omega), ← en, if_pos (nI_p (by omega))]
        by_cases qi : nx A c = i
        · rw [if_pos (show nI (nx A c) = nI i by rw [qi]), if_pos qi]; rfl
        · rw [if_neg (fun w => qi ((nI_eq (by omega) (by omega)).mp w)), if_neg qi]
          exact ih (t + 1) _ m (by omega) h1 (by omega)
    · have en : nx A c = 8 := by unfold nx; rw [if_neg (fun w => q w.2)]
      rw [show wC (A 4 c) = -1 by unfold wC; rw [if_neg q], if_pos rfl, if_neg (show ¬ (0 : Int32) ≤ -1 by decide), if_pos en]; rfl
theorem c_rings {T : S32} {A : AB} (hA : OKA A) (hC : CT T A) (fu : Nat) (hfu : 9 ≤ fu) : f_X3_inRings fu T = some (nI (bsn (rg A) 8)) := by
  refine itr_for (fun _ _ => none) (fun k => s_X3_inRings_4 fu k T) (fun i k => k (nI (bsn (rg A) i)) (nI i)) (fun _ => some (nI (bsn (rg A) 8))) 8 (fun _ => True) (fun k _ => ?_) (fun k i hi _ hk => ?_) fu 0 (by omega) (by omega) trivial
  · show s_X3_inRings_4 fu k T _ _ = _
    unfold s_X3_inRings_4
    rw [if_pos (show (8 : Int32) ≤ nI 8 by decide)]
  · show s_X3_inRings_4 fu k T _ _ = _
    have hk := hk trivial
    rw [bsn_s] at hk
    unfold s_X3_inRings_4
    rw [if_neg (i8 hi), c_alive hA hC fu hi]
    simp only [bd]
    rw [nI_1, bit_one i (by omega)]
    by_cases h : al A i = true
    · unfold f_X3_isInRing
      rw [if_pos h, if_neg n10, show f_X3_isInRing_4 fu T fu (nI i) (nI i) (0 : Int32) = _ from c_walk hA hC fu hfu hi 8 0 i fu rfl h (by omega)]
      simp only []
      by_cases q : wk A i 8 i = true
      · rw [if_pos (by simp [rg, h, q])] at hk
        rw [if_pos q, if_neg n10, fa_or]; exact hk
      · rw [if_neg (by simp [rg, h, q])] at hk
        rw [if_neg q, if_pos rfl]; exact hk
    · rw [if_neg (by simp [rg, h])] at hk
      rw [if_neg h, if_pos rfl]; exact hk
theorem or_self_bit (a i : Nat) : a ||| 2 ^ i ||| 2 ^ i = a ||| 2 ^ i := by
  apply Nat.eq_of_testBit_eq
  intro j
  simp only [Nat.testBit_or, Nat.testBit_two_pow]
  cases a.testBit j <;> cases decide (i = j) <;> rfl
theorem m_walk {M : S32} {A : AB} (hA : OKA A) (hM : MT M A) (fu : Nat) (hfu : 9 ≤ fu) (k4 : Int32 → Int32 → Option Int32) {i : Nat} (hi : i < 8) : ∀ n t c m acc, t + n = 8 → al A c = true → 10 < m + t → f_X5_ringBits_17 fu k4 M m (nI acc) (nI i) (nI c) (nI t) = k4 (nI (if wk A i n c then acc ||| 2 ^ i else acc)) (nI (i + 1)) := by
  have dead : ∀ acc t m, 10 < m + t → t ≤ 8 → f_X5_ringBits_17 fu k4 M m (nI acc) (nI i) (-9 : Int32) (nI t) = k4 (nI acc) (nI (i + 1)) := by
    intro acc t m hm ht
    obtain ⟨m, rfl⟩ : ∃ k, m = k + 1 := ⟨m - 1, by omega⟩
    show s_X5_ringBits_17 fu k4 _ M _ _ _ _ = _
    unfold s_X5_ringBits_17
    rw [nI_1, if_pos (show (-9 : Int32) < 0 by decide)]
    split <;> rfl
  have ne9 : ¬ (-9 : Int32) = nI i := fun w => by
    have h1 : (nI i).toInt = (i : Int) := nI_toInt (by omega)
    rw [← w] at h1
    have h2 : (-9 : Int32).toInt = -9 := rfl
    omega
  intro n
  induction n with
  | zero =>
    intro t c m acc ht hc hm
    obtain ⟨m, rfl⟩ : ∃ k, m = k + 1 := ⟨m - 1, by omega⟩
    show s_X5_ringBits_17 fu k4 _ M _ _ _ _ = _
    unfold s_X5_ringBits_17
    rw [if_pos ((le8 (by omega)).mpr (by omega)), nI_1]; rfl
  | succ n ih =>
    intro t c m acc ht hc hm
    obtain ⟨m, rfl⟩ : ∃ k, m = k + 1 := ⟨m - 1, by omega⟩
    have hc8 := al_lt8 hA hc
    have e4 := ((hM.2.2 c (al_lt hc)).2 hc).2.2.2
    show s_X5_ringBits_17 fu k4 (f_X5_ringBits_17 fu k4 M m) M _ _ _ _ = _
    unfold s_X5_ringBits_17 f_X5_ringBits_46 f_X5_ringBits_61
    rw [if_neg (i8 (show t < 8 by omega)), if_neg (nI_nn (show c < 2 ^ 31 by omega)), wk_s, if_neg ne9]
    simp only [gd_in hc8 (show 8 < 2 ^ 31 by omega), nI_clamp (show c < 2 ^ 31 by omega), e4, (hM.2.2 c (al_lt hc)).1, nI_1, if_neg (fI_np hA hc)]
    by_cases q : A 4 c < 10
    · have hw := wh_le A (A 4 c)
      have en : nx A c = wh A (A 4 c) := by unfold nx; rw [if_pos ⟨hc8, q⟩]
      rw [show wR (A 4 c) = nI (A 4 c) by unfold wR; rw [if_pos q], if_pos (nI_p (by omega)), m_who hA hM fu hfu (by omega)]
      simp only [bd]
      by_cases q8 : nx A c = 8
      · rw [if_pos q8, if_neg (show ¬ wh A (A 4 c) < 8 by omega), if_neg ne9]
        exact dead acc (t + 1) m (by omega) (by omega)
      · obtain ⟨h1, h2, -⟩ := nx_al q8
        rw [if_neg q8, if_pos (show wh A (A 4 c) < 8 by omega), ← en]
        by_cases qi : nx A c = i
        · rw [if_pos (show nI (nx A c) = nI i by rw [qi]), if_pos qi, bit_one i (by omega), fa_or, ih (t + 1) _ m _ (by omega) h1 (by omega)]
          congr 2
          rw [if_pos rfl]
          split
          · exact or_self_bit acc i
          · rfl
        · rw [if_neg (fun w => qi ((nI_eq (by omega) (by omega)).mp w)), if_neg qi]
          exact ih (t + 1) _ m acc (by omega) h1 (by omega)
    · have en : nx A c = 8 := by unfold nx; rw [if_neg (fun w => q w.2)]
      rw [show wR (A 4 c) = -9 by unfold wR; rw [if_neg q], if_neg (show ¬ (0 : Int32) ≤ -9 by decide), if_pos en]
      exact dead acc (t + 1) m (by omega) (by omega)
theorem rb_17 (fu : Nat) (k4 : Int32 → Int32 → Option Int32) (M : S32) (m : Nat) (a b c d : Int32) : f_X5_ringBits_17 fu k4 M (m + 1) a b c d = s_X5_ringBits_17 fu k4 (f_X5_ringBits_17 fu k4 M m) M a b c d := rfl
theorem m_rings {M : S32} {A : AB} (hA : OKA A) (hM : MT M A) (fu : Nat) (hfu : 12 ≤ fu) : f_X5_ringBits fu M = some (nI (bsn (rg A) 8)) := by
  have hn := hA.1
  have e8 := bsn_8 (p := rg A) hn (fun i hi => by rw [rg, al_f hi]; rfl)
  rw [← e8]
  refine itr_for (fun _ _ => none) (fun k => s_X5_ringBits_4 fu k M) (fun i k => k (nI (bsn (rg A) i)) (nI i)) (fun _ => some (nI (bsn (rg A) (A 6 0)))) (A 6 0) (fun _ => True) (fun k _ => ?_) (fun k i hi _ hk => ?_) fu 0 (by omega) (by omega) trivial
  · show s_X5_ringBits_4 fu k M _ _ = _
    unfold s_X5_ringBits_4
    rw [hM.1, if_pos (nI_le (Nat.le_refl _) (by omega))]
  · show s_X5_ringBits_4 fu k M _ _ = _
    have hk := hk trivial
    rw [bsn_s] at hk
    unfold s_X5_ringBits_4
    rw [hM.1, if_neg (nI_ge hi (by omega))]
    by_cases h : al A i = true
    · rw [show f_X5_ringBits_17 fu k M fu (nI (bsn (rg A) i)) (nI i) (nI i) (0 : Int32) = _ from m_walk hA hM fu (by omega) k (show i < 8 by omega) 8 0 i fu _ rfl h (by omega)]
      rw [show rg A i = wk A i 8 i by simp [rg, h]] at hk
      exact hk
    · rw [if_neg (by simp [rg, h])] at hk
      have d1 : ∀ m acc, f_X5_ringBits_17 fu k M (m + 1) (nI acc) (nI i) (-9 : Int32) (nI 1) = k (nI acc) (nI (i + 1)) := by
        intro m acc
        rw [rb_17]
        unfold s_X5_ringBits_17
        rw [if_neg (by decide), if_pos (show (-9 : Int32) < 0 by decide), nI_1]
      have d2 : ∀ m acc, 1 ≤ m → f_X5_ringBits_17 fu k M (m + 1) (nI acc) (nI i) (nI i) (nI 0) = k (nI acc) (nI (i + 1)) := by
        intro m acc hm
        rw [rb_17]
        unfold s_X5_ringBits_17 f_X5_ringBits_46 f_X5_ringBits_61
        rw [if_neg (by decide), if_neg (nI_nn (by omega)), gd_in (by omega) (by omega), nI_clamp (by omega), (hM.2.2 i hi).1, if_pos (fI_nn h), if_neg (fun w => by
          have h1 : (nI i).toInt = (i : Int) := nI_toInt (by omega)
          rw [← w] at h1
          have h2 : (-9 : Int32).toInt = -9 := rfl
          omega)]
        obtain ⟨m, rfl⟩ : ∃ k, m = k + 1 := ⟨m - 1, by omega⟩
        exact d1 m acc
      obtain ⟨f, hf⟩ : ∃ f, fu = f + 1 := ⟨fu - 1, by omega⟩
      have e := d2 f (bsn (rg A) i) (by omega)
      rw [← hf] at e
      rw [show f_X5_ringBits_17 fu k M fu (nI (bsn (rg A) i)) (nI i) (nI i) (0 : Int32) = _ from e]
      exact hk
theorem T_rings {SV SN SK SL SM : S32} (h : RR SV SN SK SL SM) (fu : Nat) (hfu : 1000 ≤ fu) : ∃ o, f_X4_rings fu SV SN = some o ∧ f_X5_rings fu SM = some o := by
  obtain ⟨A, hA, h99, hC, hM, hD⟩ := h.1
  unfold f_X4_rings f_X5_rings
  rw [c_rings hA hC fu (by omega), m_rings hA hM fu (by omega)]
  exact ⟨_, rfl, rfl⟩
/-! rings are changed -/
def itn (A : AB) : Nat → Nat → Nat
  | 0, c => c
  | a + 1, c => itn A a (nx A c)
theorem itn_add (A : AB) : ∀ a b c, itn A (a + b) c = itn A b (itn A a c)
  | 0, b, c => by rw [Nat.zero_add]; rfl
  | a + 1, b, c => by
    rw [show a + 1 + b = (a + b) + 1 by omega]
    show itn A (a + b) (nx A c) = itn A b (itn A a (nx A c))
    exact itn_add A a b _
theorem itn_nx (A : AB) (a c : Nat) : itn A a (nx A c) = nx A (itn A a c) := by
  have h1 := itn_add A 1 a c
  have h2 := itn_add A a 1 c
  rw [Nat.add_comm] at h1
  exact (h1.symm.trans h2)
theorem itn_8 (A : AB) : ∀ a, itn A a 8 = 8
  | 0 => rfl
  | a + 1 => by
    show itn A a (nx A 8) = 8
    rw [show nx A 8 = 8 by unfold nx; rw [if_neg (fun w => absurd w.1 (by omega))]]
    exact itn_8 A a
theorem itn_mul {A : AB} {a c : Nat} (h : itn A a c = c) : ∀ k, itn A (a * k) c = c
  | 0 => rfl
  | k + 1 => by rw [Nat.mul_succ, itn_add, itn_mul h k]; exact h
theorem wk_it {A : AB} {i : Nat} : ∀ n c, wk A i n c = true → ∃ a, 1 ≤ a ∧ a ≤ n ∧ itn A a c = i
  | 0, c, h => by cases h
  | n + 1, c, h => by
    rw [wk_s] at h
    by_cases q8 : nx A c = 8
    · rw [if_pos q8] at h; cases h
    · rw [if_neg q8] at h
      by_cases qi : nx A c = i
      · exact ⟨1, by omega, by omega, qi⟩
      · rw [if_neg qi] at h
        obtain ⟨a, h1, h2, h3⟩ := wk_it n _ h
        exact ⟨a + 1, by omega, by omega, h3⟩
theorem it_wk {A : AB} {i : Nat} (hi : i < 8) : ∀ n a c, 1 ≤ a → a ≤ n → itn A a c = i → wk A i n c = true
  | 0, a, c, h1, h2, _ => by omega
  | n + 1, a, c, h1, h2, h3 => by
    obtain ⟨b, rfl⟩ : ∃ b, a = b + 1 := ⟨a - 1, by omega⟩
    have h3 : itn A b (nx A c) = i := h3
    rw [wk_s]
    by_cases q8 : nx A c = 8
    · rw [q8, itn_8] at h3; omega
    · rw [if_neg q8]
      by_cases qi : nx A c = i
      · rw [if_pos qi]
      · rw [if_neg qi]
        refine it_wk hi n b _ ?_ (by omega) h3
        rcases Nat.eq_zero_or_pos b with w | w
        · subst w; exact absurd h3 qi
        · exact w
theorem rg_al {A : AB} {i : Nat} (h : rg A i = true) : al A i = true ∧ ¬ nx A i = 8 ∧ ∃ a, 1 ≤ a ∧ a ≤ 8 ∧ itn A a i = i := by
  simp only [rg, Bool.and_eq_true] at h
  refine ⟨h.1, fun q => ?_, wk_it 8 i h.2⟩
  have := h.2
  rw [show (8 : Nat) = 7 + 1 from rfl, wk_s, if_pos q] at this
  cases this
theorem rg_nx {A : AB} {i : Nat} (h : rg A i = true) : rg A (nx A i) = true := by
  obtain ⟨h1, h2, a, h3, h4, h5⟩ := rg_al h
  obtain ⟨g1, g2, -⟩ := nx_al h2
  simp only [rg, Bool.and_eq_true]
  exact ⟨g1, it_wk g2 8 a _ h3 h4 (by rw [itn_nx, h5])⟩
theorem rg_inj {A : AB} {i j : Nat} (hi : rg A i = true) (hj : rg A j = true) (h : nx A i = nx A j) : i = j := by
  obtain ⟨-, -, a, a1, -, a3⟩ := rg_al hi
  obtain ⟨-, -, b, b1, -, b3⟩ := rg_al hj
  have e1 := itn_mul a3 b
  have e2 := itn_mul b3 a
  rw [Nat.mul_comm] at e2
  have hp : 1 ≤ a * b := Nat.mul_pos a1 b1
  obtain ⟨c, hc⟩ : ∃ c, a * b = c + 1 := ⟨a * b - 1, by omega⟩
  rw [hc] at e1 e2
  have e1 : itn A c (nx A i) = i := e1
  have e2 : itn A c (nx A j) = j := e2
  rw [h] at e1
  exact e1.symm.trans e2
def cr (A : AB) : AB := fun f i => if rg A i then (if f = 2 then A 4 i else if f = 4 then 10 else A f i) else A f i
theorem cr_of (A : AB) {f : Nat} (i : Nat) (h2 : f ≠ 2) (h4 : f ≠ 4) : cr A f i = A f i := by
  unfold cr; simp [h2, h4]
theorem al_cr (A : AB) (i : Nat) : al (cr A) i = al A i := by
  unfold al; rw [cr_of A 0 (by decide) (by decide), cr_of A i (by decide) (by decide)]
theorem OKA_cr {A : AB} (hA : OKA A) : OKA (cr A) := by
  have hfl : ∀ i, al A i = true → ∃ j, al A j = true ∧ cr A 2 i = A 2 j ∧ ((rg A i = true ∧ j = nx A i) ∨ (rg A i = false ∧ j = i)) := by
    intro i hi
    cases hq : rg A i with
    | true =>
      obtain ⟨h1, h2, -⟩ := rg_al hq
      obtain ⟨g1, -, -, -, g5, -⟩ := nx_al h2
      refine ⟨nx A i, g1, ?_, Or.inl ⟨rfl, rfl⟩⟩
      rw [g5]; unfold cr; rw [if_pos hq, if_pos rfl]
    | false =>
      refine ⟨i, hi, ?_, Or.inr ⟨rfl, rfl⟩⟩
      unfold cr; rw [if_neg (by rw [hq]; decide)]
  refine ⟨?_, fun i hi => ?_, fun i j hi hj hf => ?_⟩
  · rw [cr_of A 0 (by decide) (by decide)]; exact hA.1
  · rw [al_cr] at hi
    obtain ⟨h0, h1, h2, h3, h4⟩ := hA.2.1 i hi
    rw [cr_of A (f := 0) i (by decide) (by decide), cr_of A (f := 1) i (by decide) (by decide), cr_of A (f := 3) i (by decide) (by decide)]
    obtain ⟨j, j1, j2, -⟩ := hfl i hi
    refine ⟨h0, h1, by rw [j2]; exact (hA.2.1 j j1).2.2.1, h3, ?_⟩
    unfold cr
    split
    · rw [if_neg (by decide), if_pos rfl]; omega
    · exact h4
  · rw [al_cr] at hi hj
    obtain ⟨a, a1, a2, a3⟩ := hfl i hi
    obtain ⟨b, b1, b2, b3⟩ := hfl j hj
    have hab : a = b := hA.2.2 a b a1 b1 (a2.symm.trans (hf.trans b2))
    rcases a3 with ⟨r1, rfl⟩ | ⟨r1, rfl⟩
    · rcases b3 with ⟨r2, rfl⟩ | ⟨r2, rfl⟩
      · exact rg_inj r1 r2 hab
      · rw [← hab, rg_nx r1] at r2; cases r2
    · rcases b3 with ⟨r2, rfl⟩ | ⟨r2, rfl⟩
      · rw [hab, rg_nx r2] at r1; cases r1
      · exact hab
def cmv (A : AB) (n : Nat) : Nat := fb_ct (fun i => rg A i && !decide (A 2 i = A 4 i)) n
theorem cmv_s (A : AB) (n : Nat) : cmv A (n + 1) = cmv A n + (if rg A n && !decide (A 2 n = A 4 n) then 1 else 0) := fb_ct_succ _ n
theorem rg_w {A : AB} {i : Nat} (h : rg A i = true) : A 4 i < 10 := (nx_al (rg_al h).2.1).2.2.2.1
theorem c_change {T : S32} {A : AB} (hA : OKA A) (hC : CT T A) (fu : Nat) (hfu : 9 ≤ fu) : ∃ T2, f_X3_changeRings fu T = some (nI (cmv A 8), T2) ∧ CT T2 (cr A) := by
  have hn := hA.1
  have loop : ∀ (m j : Nat) (U : S32), j ≤ 8 → 8 < m + j → (∀ a, a ≠ 2 → a ≠ 4 → U a = T a) → (∀ i, i < j → i < A 6 0 → U 2 i = fI (cr A) i ∧ (al A i = true → U 4 i = wC (cr A 4 i))) → (∀ i, j ≤ i → U 2 i = T 2 i ∧ U 4 i = T 4 i) → ∃ T2, f_X3_changeRings_9 fu m (nI (bsn (rg A) 8)) (nI (cmv A j)) (nI j) U = some (nI (cmv A 8), T2) ∧ CT T2 (cr A) := by
    intro m
    induction m with
    | zero => intro j U h1 h2; exact absurd h2 (by omega)
    | succ m ih =>
      intro j U h1 h2 hU hlo hhi
      show ∃ T2, s_X3_changeRings_9 fu (f_X3_changeRings_9 fu m) _ _ _ U = some (nI (cmv A 8), T2) ∧ CT T2 (cr A)
      unfold s_X3_changeRings_9 f_X3_changeRings_44
      rcases Nat.lt_or_ge j 8 with hj | hj
      · have ihj := ih (j + 1)
        rw [cmv_s] at ihj
        rw [if_neg (i8 hj), holds_is fu (bsn_lt _ 8) hj, bsn_test, show decide (j < 8) = true by simpa using hj, Bool.true_and]
        simp only [bd, gd_in hj (show 8 < 2 ^ 31 by omega), nI_clamp (show j < 2 ^ 31 by omega), nI_1, (hhi j (Nat.le_refl j)).1, (hhi j (Nat.le_refl j)).2]
        by_cases hr : rg A j = true
        · have ha := (rg_al hr).1
          have hw := rg_w hr
          have hf := (hA.2.1 j ha).2.2.1
          obtain ⟨-, -, -, e4⟩ := (hC.2.2 j (al_lt ha)).2 ha
          rw [if_pos hr, if_neg n10, (hC.2.2 j (al_lt ha)).1, e4, fI, if_pos ha, show wC (A 4 j) = nI (A 4 j) by unfold wC; rw [if_pos hw]]
          have hst : (∀ a, a ≠ 2 → a ≠ 4 → sa (sa U 2 (upd (U 2) j (nI (A 4 j)))) 4 (upd (U 4) j (-1)) a = T a) := fun a a2 a4 => by rw [sa_ne a4, sa_ne a2]; exact hU a a2 a4
          have hlo' : ∀ i, i < j + 1 → i < A 6 0 → sa (sa U 2 (upd (U 2) j (nI (A 4 j)))) 4 (upd (U 4) j (-1)) 2 i = fI (cr A) i ∧ (al A i = true → sa (sa U 2 (upd (U 2) j (nI (A 4 j)))) 4 (upd (U 4) j (-1)) 4 i = wC (cr A 4 i)) := by
            intro i hi hin
            show upd (U 2) j (nI (A 4 j)) i = fI (cr A) i ∧ (al A i = true → upd (U 4) j (-1) i = wC (cr A 4 i))
            by_cases q : i = j
            · subst q
              rw [pk_us, pk_us, fI, al_cr, if_pos ha]
              unfold cr
              rw [if_pos hr, if_pos hr]
              exact ⟨rfl, fun _ => rfl⟩
            · rw [pk_un q, pk_un q]; exact hlo i (by omega) hin
          have hhi' : ∀ i, j + 1 ≤ i → sa (sa U 2 (upd (U 2) j (nI (A 4 j)))) 4 (upd (U 4) j (-1)) 2 i = T 2 i ∧ sa (sa U 2 (upd (U 2) j (nI (A 4 j)))) 4 (upd (U 4) j (-1)) 4 i = T 4 i := by
            intro i hi
            show upd (U 2) j (nI (A 4 j)) i = T 2 i ∧ upd (U 4) j (-1) i = T 4 i
            rw [pk_un (by omega), pk_un (by omega)]; exact hhi i (by omega)
          have go := ihj _ (by omega) (by omega) hst hlo' hhi'
          by_cases q : A 2 j = A 4 j
          · rw [if_pos (show nI (A 2 j) = nI (A 4 j) by rw [q])]
            rw [if_neg (by simp [q])] at go
            exact go
          · rw [if_neg (fun w => q ((nI_eq (by omega) (by omega)).mp w))]
            rw [if_pos (by simp [q, hr])] at go
            exact go
        · rw [if_neg hr, if_pos rfl]
          rw [if_neg (by simp [hr])] at ihj
          refine ihj U (by omega) (by omega) hU (fun i hi hin => ?_) (fun i hi => hhi i (by omega))
          by_cases q : i = j
          · subst q
            refine ⟨?_, fun ha => ?_⟩
            · rw [(hhi i (Nat.le_refl i)).1, (hC.2.2 i hin).1, fI, fI, al_cr]
              unfold cr; rw [if_neg hr]
            · rw [(hhi i (Nat.le_refl i)).2, ((hC.2.2 i hin).2 ha).2.2.2]
              unfold cr; rw [if_neg hr]
          · exact hlo i (by omega) hin
      · obtain rfl : j = 8 := by omega
        rw [if_pos (show (8 : Int32) ≤ nI 8 by decide)]
        refine ⟨U, rfl, ?_, ?_, fun i hi => ?_⟩
        · rw [hU 5 (by decide) (by decide), cr_of A 0 (by decide) (by decide)]; exact hC.1
        · rw [hU 6 (by decide) (by decide), cr_of A 0 (by decide) (by decide)]; exact hC.2.1
        · rw [cr_of A 0 (by decide) (by decide)] at hi
          obtain ⟨q1, q2⟩ := hlo i (by omega) hi
          refine ⟨q1, fun ha => ?_⟩
          rw [al_cr] at ha
          obtain ⟨e1, e2, e3, e4⟩ := (hC.2.2 i hi).2 ha
          rw [hU 0 (by decide) (by decide), hU 1 (by decide) (by decide), hU 3 (by decide) (by decide), cr_of A i (by decide) (by decide), cr_of A i (by decide) (by decide), cr_of A i (by decide) (by decide)]
          exact ⟨e1, e2, e3, q2 ha⟩
  unfold f_X3_changeRings
  rw [c_rings hA hC fu hfu]
  simp only [bd]
  exact loop fu 0 T (by omega) (by omega) (fun _ _ _ => rfl) (fun i hi => absurd hi (by omega)) (fun i _ => ⟨rfl, rfl⟩)
theorem m_change {M : S32} {A : AB} (hA : OKA A) (hM : MT M A) (fu : Nat) (hfu : 12 ≤ fu) : ∃ M2, f_X5_changing fu M = some (nI (cmv A 8), M2) ∧ MT M2 (cr A) ∧ ∀ a, a ≠ 3 → a ≠ 5 → M2 a = M a := by
  have hn := hA.1
  have e8 : cmv A (A 6 0) = cmv A 8 := (ct_tail (fun j hj => by rw [rg, al_f hj]; rfl) 8 hn).symm
  have loop : ∀ (m j : Nat) (U : S32), j ≤ A 6 0 → 8 < m + j → (∀ a, a ≠ 3 → a ≠ 5 → U a = M a) → (∀ i, i < j → U 3 i = fI (cr A) i ∧ (al A i = true → U 5 i = wR (cr A 4 i))) → (∀ i, j ≤ i → U 3 i = M 3 i ∧ U 5 i = M 5 i) → ∃ M2, f_X5_changing_9 fu m (nI (bsn (rg A) 8)) (nI (cmv A j)) (nI j) U = some (nI (cmv A 8), M2) ∧ MT M2 (cr A) ∧ ∀ a, a ≠ 3 → a ≠ 5 → M2 a = M a := by
    intro m
    induction m with
    | zero => intro j U h1 h2; exact absurd h2 (by omega)
    | succ m ih =>
      intro j U h1 h2 hU hlo hhi
      show ∃ M2, s_X5_changing_9 fu (f_X5_changing_9 fu m) _ _ _ U = some (nI (cmv A 8), M2) ∧ MT M2 (cr A) ∧ ∀ a, a ≠ 3 → a ≠ 5 → M2 a = M a
      unfold s_X5_changing_9 f_X5_changing_49
      rw [hU 6 (by decide) (by decide), hM.1]
      rcases Nat.lt_or_ge j (A 6 0) with hj | hj
      · have hj8 : j < 8 := by omega
        have ihj := ih (j + 1)
        rw [cmv_s] at ihj
        rw [if_neg (nI_ge hj (by omega)), bit_get _ (bsn_lt _ 8) j hj8, bsn_test, show decide (j < 8) = true by simpa using hj8, Bool.true_and]
        simp only [gd_in hj8 (show 8 < 2 ^ 31 by omega), nI_clamp (show j < 2 ^ 31 by omega), nI_1, (hhi j (Nat.le_refl j)).1, (hhi j (Nat.le_refl j)).2]
        by_cases hr : rg A j = true
        · have ha := (rg_al hr).1
          have hw := rg_w hr
          have hf := (hA.2.1 j ha).2.2.1
          obtain ⟨-, -, -, e4⟩ := (hM.2.2 j hj).2 ha
          rw [if_pos hr, if_neg n10, (hM.2.2 j hj).1, e4, fI, if_pos ha, show wR (A 4 j) = nI (A 4 j) by unfold wR; rw [if_pos hw]]
          have hst : (∀ a, a ≠ 3 → a ≠ 5 → sa (sa U 3 (upd (U 3) j (nI (A 4 j)))) 5 (upd (U 5) j (-9)) a = M a) := fun a a2 a4 => by rw [sa_ne a4, sa_ne a2]; exact hU a a2 a4
          have hlo' : ∀ i, i < j + 1 → sa (sa U 3 (upd (U 3) j (nI (A 4 j)))) 5 (upd (U 5) j (-9)) 3 i = fI (cr A) i ∧ (al A i = true → sa (sa U 3 (upd (U 3) j (nI (A 4 j)))) 5 (upd (U 5) j (-9)) 5 i = wR (cr A 4 i)) := by
            intro i hi
            show upd (U 3) j (nI (A 4 j)) i = fI (cr A) i ∧ (al A i = true → upd (U 5) j (-9) i = wR (cr A 4 i))
            by_cases q : i = j
            · subst q
              rw [pk_us, pk_us, fI, al_cr, if_pos ha]
              unfold cr
              rw [if_pos hr, if_pos hr]
              exact ⟨rfl, fun _ => rfl⟩
            · rw [pk_un q, pk_un q]; exact hlo i (by omega)
          have hhi' : ∀ i, j + 1 ≤ i → sa (sa U 3 (upd (U 3) j (nI (A 4 j)))) 5 (upd (U 5) j (-9)) 3 i = M 3 i ∧ sa (sa U 3 (upd (U 3) j (nI (A 4 j)))) 5 (upd (U 5) j (-9)) 5 i = M 5 i := by
            intro i hi
            show upd (U 3) j (nI (A 4 j)) i = M 3 i ∧ upd (U 5) j (-9) i = M 5 i
            rw [pk_un (by omega), pk_un (by omega)]; exact hhi i (by omega)
          have go := ihj _ (by omega) (by omega) hst hlo' hhi'
          by_cases q : A 2 j = A 4 j
          · rw [if_pos (show nI (A 2 j) = nI (A 4 j) by rw [q]), nI_a0]
            rw [if_neg (by simp [q])] at go
            exact go
          · rw [if_neg (fun w => q ((nI_eq (by omega) (by omega)).mp w))]
            rw [if_pos (by simp [q, hr])] at go
            exact go
        · rw [if_neg hr, if_pos rfl]
          rw [if_neg (by simp [hr])] at ihj
          refine ihj U (by omega) (by omega) hU (fun i hi => ?_) (fun i hi => hhi i (by omega))
          by_cases q : i = j
          · subst q
            refine ⟨?_, fun ha => ?_⟩
            · rw [(hhi i (Nat.le_refl i)).1, (hM.2.2 i hj).1, fI, fI, al_cr]
              unfold cr; rw [if_neg hr]
            · rw [(hhi i (Nat.le_refl i)).2, ((hM.2.2 i hj).2 ha).2.2.2]
              unfold cr; rw [if_neg hr]
          · exact hlo i (by omega)
      · obtain rfl : j = A 6 0 := by omega
        rw [if_pos (nI_le (Nat.le_refl _) (by omega)), e8]
        refine ⟨U, rfl, ⟨?_, ?_, fun i hi => ?_⟩, hU⟩
        · rw [hU 6 (by decide) (by decide), cr_of A 0 (by decide) (by decide)]; exact hM.1
        · rw [hU 7 (by decide) (by decide), cr_of A 0 (by decide) (by decide)]; exact hM.2.1
        · rw [cr_of A 0 (by decide) (by decide)] at hi
          obtain ⟨q1, q2⟩ := hlo i hi
          refine ⟨q1, fun ha => ?_⟩
          rw [al_cr] at ha
          obtain ⟨e1, e2, e3, e4⟩ := (hM.2.2 i hi).2 ha
          rw [hU 1 (by decide) (by decide), hU 2 (by decide) (by decide), hU 4 (by decide) (by decide), cr_of A i (by decide) (by decide), cr_of A i (by decide) (by decide), cr_of A i (by decide) (by decide)]
          exact ⟨e1, e2, e3, q2 ha⟩
  unfold f_X5_changing
  rw [m_rings hA hM fu hfu]
  simp only [bd]
  exact loop fu 0 M (by omega) (by omega) (fun _ _ _ => rfl) (fun i hi => absurd hi (by omega)) (fun i _ => ⟨rfl, rfl⟩)
theorem T_changing {SV SN SK SL SM : S32} (h : RR SV SN SK SL SM) (fu : Nat) (hfu : 1000 ≤ fu) : ∃ o1 o2, f_X4_changing fu SV SN = some o1 ∧ f_X5_changing fu SM = some o2 ∧ o1.1 = o2.1 ∧ RR SV o1.2 SK SL o2.2 := by
  obtain ⟨A, hA, h99, hC, hM, hD⟩ := h.1
  obtain ⟨T2, t1, t2⟩ := c_change hA hC fu (by omega)
  obtain ⟨N, n1, n2, n3⟩ := m_change hA hM fu (by omega)
  unfold f_X4_changing
  rw [t1, n1]
  refine ⟨_, _, rfl, rfl, rfl, ⟨cr A, OKA_cr hA, ?_, t2, n2, ?_⟩, RRow_fr h.2.1 rfl rfl (n3 22 (by decide) (by decide)) (n3 23 (by decide) (by decide)), RLet_fr h.2.2.1 (n3 8 (by decide) (by decide)) (n3 14 (by decide) (by decide)), RRef_fr h.2.2.2.1 rfl (n3 0 (by decide) (by decide)), RIm_frr h.2.2.2.2 rfl (n3 18 (by decide) (by decide)) (n3 17 (by decide) (by decide))⟩
  · rw [cr_of A 0 (by decide) (by decide)]; exact h99
  · show DM (N 1) (N 2) (cr A 6 0)
    rw [n3 1 (by decide) (by decide), n3 2 (by decide) (by decide), cr_of A 0 (by decide) (by decide)]
    exact hD
