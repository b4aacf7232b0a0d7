/-! the state in numbers: A 0 kind, A 1 age, A 2 floor, A 3 load, A 4 wish (10: none), A 5 lives (1), A 6 0 who ever came, A 7 0 the year -/
abbrev AB : Type := Nat → Nat → Nat
def al (A : AB) (i : Nat) : Bool := decide (i < A 6 0) && decide (A 5 i = 1)
def wC (v : Nat) : Int32 := if v < 10 then nI v else -1
def wR (v : Nat) : Int32 := if v < 10 then nI v else -9
def fI (A : AB) (i : Nat) : Int32 := if al A i then nI (A 2 i) else -1
def OKA (A : AB) : Prop := A 6 0 ≤ 8 ∧ (∀ i, al A i = true → A 0 i ≤ 5 ∧ A 1 i ≤ 99 ∧ A 2 i ≤ 9 ∧ A 3 i ≤ 9 ∧ A 4 i ≤ 10) ∧ ∀ i j, al A i = true → al A j = true → A 2 i = A 2 j → i = j
def CT (T : S32) (A : AB) : Prop := T 5 0 = nI (A 6 0) ∧ T 6 0 = nI (A 7 0) ∧ ∀ i, i < A 6 0 → T 2 i = fI A i ∧ (al A i = true → T 0 i = nI (A 0 i) ∧ T 1 i = nI (A 1 i) ∧ T 3 i = nI (A 3 i) ∧ T 4 i = wC (A 4 i))
def MTi (c : Nat → Int32) (A : AB) : Prop := c 40 = nI (A 6 0) ∧ c 41 = nI (A 7 0) ∧ ∀ i, i < A 6 0 → c (16 + i) = fI A i ∧ (al A i = true → c i = nI (A 0 i) ∧ c (8 + i) = nI (A 1 i) ∧ c (24 + i) = nI (A 3 i) ∧ c (32 + i) = wR (A 4 i))
def MT (M : S32) (A : AB) : Prop := M 6 0 = nI (A 6 0) ∧ M 7 0 = nI (A 7 0) ∧ ∀ i, i < A 6 0 → M 3 i = fI A i ∧ (al A i = true → M 1 i = nI (A 0 i) ∧ M 2 i = nI (A 1 i) ∧ M 4 i = nI (A 3 i) ∧ M 5 i = wR (A 4 i))
theorem al_lt {A : AB} {i : Nat} (h : al A i = true) : i < A 6 0 := by
  simp only [al, Bool.and_eq_true, decide_eq_true_eq] at h
  exact h.1
theorem al_lt8 {A : AB} (hA : OKA A) {i : Nat} (h : al A i = true) : i < 8 := Nat.lt_of_lt_of_le (al_lt h) hA.1
theorem MT_im {M : S32} {A : AB} (hn : A 6 0 ≤ 8) : MTi (im M) A ↔ MT M A := by
  unfold MTi MT
  rw [im40, im41]
  constructor
  · rintro ⟨h1, h2, h3⟩
    refine ⟨h1, h2, fun i hi => ?_⟩
    obtain ⟨h4, h5⟩ := h3 i hi
    have e1 := im8 M 1 i (by omega) (by omega) (by omega)
    have e2 := im8 M 2 i (by omega) (by omega) (by omega)
    have e3 := im8 M 3 i (by omega) (by omega) (by omega)
    have e4 := im8 M 4 i (by omega) (by omega) (by omega)
    have e5 := im8 M 5 i (by omega) (by omega) (by omega)
    simp at e1 e2 e3 e4 e5
    rw [e3] at h4
    refine ⟨h4, fun ha => ?_⟩
    obtain ⟨a1, a2, a3, a4⟩ := h5 ha
    exact ⟨e1 ▸ a1, e2 ▸ a2, e4 ▸ a3, e5 ▸ a4⟩
  · rintro ⟨h1, h2, h3⟩
    refine ⟨h1, h2, fun i hi => ?_⟩
    obtain ⟨h4, h5⟩ := h3 i hi
    have e1 := im8 M 1 i (by omega) (by omega) (by omega)
    have e2 := im8 M 2 i (by omega) (by omega) (by omega)
    have e3 := im8 M 3 i (by omega) (by omega) (by omega)
    have e4 := im8 M 4 i (by omega) (by omega) (by omega)
    have e5 := im8 M 5 i (by omega) (by omega) (by omega)
    simp at e1 e2 e3 e4 e5
    refine ⟨e3.trans h4, fun ha => ?_⟩
    obtain ⟨a1, a2, a3, a4⟩ := h5 ha
    exact ⟨e1.trans a1, e2.trans a2, e4.trans a3, e5.trans a4⟩
/-! loops -/
theorem itr_for {α O : Type} (z : α) (g : α → α) (ev : Nat → α → O) (r : Nat → O) (N : Nat) (P : Nat → Prop) (hN : ∀ k, P N → ev N (g k) = r N) (hs : ∀ k i, i < N → P i → (P (i + 1) → ev (i + 1) k = r (i + 1)) → ev i (g k) = r i) : ∀ m i, i ≤ N → N < m + i → P i → ev i (itr z g m) = r i := by
  intro m
  induction m with
  | zero => intro i h1 h2; exact absurd h2 (by omega)
  | succ m ih =>
    intro i h1 h2 hP
    rw [itr_s]
    rcases Nat.lt_or_ge i N with h | h
    · exact hs _ i h hP (fun q => ih (i + 1) (by omega) (by omega) q)
    · obtain rfl : i = N := by omega
      exact hN _ hP
/-! small numbers -/
theorem nI_m1 {n : Nat} (h : n < 2 ^ 31) : ¬ nI n = -1 := by
  intro q
  have h1 : (nI n).toInt = (n : Int) := nI_toInt h
  rw [q] at h1
  have h2 : (-1 : Int32).toInt = -1 := rfl
  omega
theorem nI_nn {n : Nat} (h : n < 2 ^ 31) : ¬ nI n < (0 : Int32) := nI_pos h
theorem nI_p {n : Nat} (h : n < 2 ^ 31) : (0 : Int32) ≤ nI n := nI_pos' h
theorem nI_z {n : Nat} (h : n < 2 ^ 31) : nI n = (0 : Int32) ↔ n = 0 := nI_eq (b := 0) h (by omega)
theorem le8 {i : Nat} (h : i < 2 ^ 31) : (8 : Int32) ≤ nI i ↔ 8 ≤ i := nI_leI (a := 8) (by omega) h
theorem bit_get : ∀ s, s < 256 → ∀ i, i < 8 → ((nI s >>> (nI i &&& 31)) &&& (1 : Int32)) = if s.testBit i then 1 else 0 := by decide +kernel
theorem bit_one : ∀ i, i < 31 → (1 : Int32) <<< (nI i &&& 31) = nI (2 ^ i) := by decide +kernel
def bsn (p : Nat → Bool) : Nat → Nat
  | 0 => 0
  | n + 1 => if p n then bsn p n ||| 2 ^ n else bsn p n
theorem bsn_test (p : Nat → Bool) : ∀ n i, (bsn p n).testBit i = (decide (i < n) && p i)
  | 0, i => by simp [bsn]
  | n + 1, i => by
    unfold bsn
    by_cases h : p n
    · rw [if_pos h, Nat.testBit_or, bsn_test p n i, Nat.testBit_two_pow]
      by_cases h1 : i < n
      · simp [h1, Nat.lt_succ_of_lt h1, Nat.ne_of_gt h1]
      · by_cases h2 : i = n
        · subst h2; simp [h]
        · simp [h1, show ¬ i < n + 1 by omega, show ¬ n = i by omega]
    · rw [if_neg h, bsn_test p n i]
      by_cases h1 : i < n
      · simp [h1, Nat.lt_succ_of_lt h1]
      · by_cases h2 : i = n
        · subst h2; simp [h]
        · simp [h1, show ¬ i < n + 1 by omega]
theorem bsn_lt (p : Nat → Bool) : ∀ n, bsn p n < 2 ^ n
  | 0 => by simp [bsn]
  | n + 1 => by
    unfold bsn
    have h := bsn_lt p n
    have h2 : 2 ^ (n + 1) = 2 ^ n * 2 := Nat.pow_succ ..
    by_cases hp : p n
    · rw [if_pos hp]
      exact Nat.or_lt_two_pow (by omega) (by omega)
    · rw [if_neg hp]; omega
theorem bsn_cong {p q : Nat → Bool} : ∀ {n : Nat}, (∀ i, i < n → p i = q i) → bsn p n = bsn q n
  | 0, _ => rfl
  | n + 1, h => by
    unfold bsn
    rw [h n (by omega), bsn_cong (fun i hi => h i (by omega))]
theorem bsn_8 {p : Nat → Bool} {n : Nat} (hn : n ≤ 8) (h : ∀ i, n ≤ i → p i = false) : bsn p n = bsn p 8 := by
  apply Nat.eq_of_testBit_eq
  intro i
  rw [bsn_test, bsn_test]
  by_cases h1 : i < n
  · simp [h1, show i < 8 by omega]
  · simp [h i (by omega)]
theorem al_f {A : AB} {i : Nat} (h : A 6 0 ≤ i) : al A i = false := by
  simp [al, show ¬ i < A 6 0 by omega]
/-! who is alive -/
theorem c_alive {T : S32} {A : AB} (hA : OKA A) (hC : CT T A) (fu : Nat) {i : Nat} (hi : i < 8) : f_X3_isAlive fu T (nI i) = some (if al A i then 1 else 0) := by
  have hn := hA.1
  unfold f_X3_isAlive
  rw [if_neg (nI_nn (by omega)), if_neg (i8 hi), hC.1]
  by_cases h : A 6 0 ≤ i
  · rw [if_pos (nI_le h (by omega)), al_f h]; rfl
  · rw [if_neg (nI_ge (by omega) (by omega)), gd_in hi (by omega), nI_clamp (by omega), (hC.2.2 i (by omega)).1]
    unfold fI
    by_cases h2 : al A i = true
    · rw [if_pos h2, if_neg (nI_m1 (by have := (hA.2.1 i h2).2.2.1; omega)), if_pos h2]
    · rw [if_neg h2, if_pos rfl, if_neg h2]
theorem m_alive {M : S32} {A : AB} (hA : OKA A) (hM : MT M A) (fu : Nat) {i : Nat} (hi : i < 8) : f_X5_isAlive fu M (nI i) = some (if al A i then 1 else 0) := by
  have hn := hA.1
  unfold f_X5_isAlive
  rw [if_neg (nI_nn (by omega)), hM.1]
  by_cases h : A 6 0 ≤ i
  · rw [if_pos (nI_le h (by omega)), al_f h]; rfl
  · rw [if_neg (nI_ge (by omega) (by omega)), gd_in hi (by omega), nI_clamp (by omega), (hM.2.2 i (by omega)).1]
    unfold fI
    by_cases h2 : al A i = true
    · rw [if_pos h2, if_neg (nI_nn (by have := (hA.2.1 i h2).2.2.1; omega)), if_pos h2]
    · rw [if_neg h2, if_pos (by decide), if_neg h2]
/-- any int: a lodger alive, or nobody on either side -/
theorem alive_any {T M : S32} {A : AB} (hA : OKA A) (hC : CT T A) (hM : MT M A) (fu : Nat) (x : Int32) : (∃ i, i < 8 ∧ x = nI i ∧ al A i = true ∧ f_X3_isAlive fu T x = some 1 ∧ f_X5_isAlive fu M x = some 1) ∨ (f_X3_isAlive fu T x = some 0 ∧ f_X5_isAlive fu M x = some 0) := by
  by_cases h0 : x < 0
  · right
    unfold f_X3_isAlive f_X5_isAlive
    rw [if_pos h0, if_pos h0]
    exact ⟨rfl, rfl⟩
  · obtain ⟨j, hj, rfl⟩ := nI_of h0
    by_cases h8 : j < 8
    · by_cases ha : al A j = true
      · left
        refine ⟨j, h8, rfl, ha, ?_, ?_⟩
        · rw [c_alive hA hC fu h8, if_pos ha]
        · rw [m_alive hA hM fu h8, if_pos ha]
      · right
        refine ⟨?_, ?_⟩
        · rw [c_alive hA hC fu h8, if_neg ha]
        · rw [m_alive hA hM fu h8, if_neg ha]
    · right
      have hn := hA.1
      unfold f_X3_isAlive f_X5_isAlive
      rw [if_neg h0, if_pos ((le8 hj).mpr (by omega)), hM.1, if_pos (nI_le (by omega) hj)]
      rw [if_neg h0]
      exact ⟨rfl, rfl⟩
/-! the living, as bits -/
theorem c_living {T : S32} {A : AB} (hA : OKA A) (hC : CT T A) (fu : Nat) (hfu : 9 ≤ fu) : f_X3_living fu T = some (nI (bsn (al A) 8)) := by
  refine itr_for (fun _ _ => none) (fun k => s_X3_living_4 fu k T) (fun i k => k (nI (bsn (al A) i)) (nI i)) (fun _ => some (nI (bsn (al A) 8))) 8 (fun _ => True) (fun k _ => ?_) (fun k i hi _ hk => ?_) fu 0 (by omega) (by omega) trivial
  · show s_X3_living_4 fu k T _ _ = _
    unfold s_X3_living_4
    rw [if_pos (show (8 : Int32) ≤ nI 8 by decide)]
  · show s_X3_living_4 fu k T _ _ = _
    unfold s_X3_living_4
    rw [if_neg (i8 hi), c_alive hA hC fu hi]
    simp only [bd]
    rw [bit_one i (by omega), nI_1]
    have hk := hk trivial
    rw [show bsn (al A) (i + 1) = if al A i then bsn (al A) i ||| 2 ^ i else bsn (al A) i from rfl] at hk
    by_cases h : al A i = true
    · rw [if_pos h] at hk
      rw [if_pos h, if_neg (by decide), fa_or, hk]
    · rw [if_neg h] at hk
      rw [if_neg h, if_pos rfl, hk]
theorem m_living {M : S32} {A : AB} (hA : OKA A) (hM : MT M A) (fu : Nat) (hfu : 9 ≤ fu) : f_X5_aliveBits fu M = some (nI (bsn (al A) 8)) := by
  have hn := hA.1
  have e := bsn_8 (p := al A) hn (fun i hi => al_f hi)
  refine itr_for (fun _ _ => none) (fun k => s_X5_aliveBits_4 fu k M) (fun i k => k (nI (bsn (al A) i)) (nI i)) (fun _ => some (nI (bsn (al A) 8))) (A 6 0) (fun _ => True) (fun k _ => ?_) (fun k i hi _ hk => ?_) fu 0 (by omega) (by omega) trivial
  · show s_X5_aliveBits_4 fu k M _ _ = _
    unfold s_X5_aliveBits_4
    rw [hM.1, if_pos (nI_le (Nat.le_refl _) (by omega)), e]
  · show s_X5_aliveBits_4 fu k M _ _ = _
    unfold s_X5_aliveBits_4
    rw [hM.1, if_neg (nI_ge hi (by omega)), gd_in (by omega) (by omega), nI_clamp (by omega), (hM.2.2 i hi).1]
    rw [bit_one i (by omega), nI_1]
    have hk := hk trivial
    rw [show bsn (al A) (i + 1) = if al A i then bsn (al A) i ||| 2 ^ i else bsn (al A) i from rfl] at hk
    unfold fI
    by_cases h : al A i = true
    · rw [if_pos h] at hk
      rw [if_pos h, if_neg (nI_nn (by have := (hA.2.1 i h).2.2.1; omega)), fa_or, hk]
    · rw [if_neg h] at hk
      rw [if_neg h, if_pos (by decide), show (nI (bsn (al A) i) ||| (0 : Int32)) = nI (bsn (al A) i) by rw [show (0 : Int32) = nI 0 from rfl, fa_or, Nat.or_zero], hk]
/-- a set of the living: what is asked of deaths -/
def inA (A : AB) (s : Nat) : Prop := s < 256 ∧ ∀ i, s.testBit i = true → al A i = true
theorem nI_bv (n : Nat) : (nI n).toBitVec = BitVec.ofNat 32 n := rfl
theorem nI_inj32 {a b : Nat} (ha : a < 2 ^ 32) (hb : b < 2 ^ 32) (h : nI a = nI b) : a = b := by
  have h1 := congrArg (fun x : Int32 => x.toBitVec.toNat) h
  simp only [nI_bv, BitVec.toNat_ofNat, Nat.mod_eq_of_lt ha, Nat.mod_eq_of_lt hb] at h1
  exact h1
theorem nI_of32 (x : Int32) : ∃ n, n < 2 ^ 32 ∧ x = nI n := by
  refine ⟨x.toBitVec.toNat, x.toBitVec.isLt, ?_⟩
  apply Int32.toBitVec_inj.mp
  rw [nI_bv, BitVec.ofNat_toNat, BitVec.setWidth_eq]
theorem and_not (x : Int32) (b : Nat) (hb : b < 256) : x &&& (nI b ^^^ (-1)) = 0 ↔ ∃ s, s < 256 ∧ x = nI s ∧ ∀ i, s.testBit i = true → b.testBit i = true := by
  obtain ⟨n, hn, rfl⟩ := nI_of32 x
  rw [show (-1 : Int32) = nI (2 ^ 32 - 1) from rfl, fb_xorI, fa_and]
  have hx : b ^^^ (2 ^ 32 - 1) < 2 ^ 32 := Nat.xor_lt_two_pow (by omega) (by omega)
  have key : n &&& (b ^^^ (2 ^ 32 - 1)) = 0 ↔ ∀ i, n.testBit i = true → b.testBit i = true := by
    constructor
    · intro h i hi
      have h1 := congrArg (fun m => Nat.testBit m i) h
      simp only [Nat.testBit_and, Nat.testBit_xor, Nat.testBit_two_pow_sub_one, Nat.zero_testBit, hi, Bool.true_and] at h1
      have h32 : i < 32 := by
        rcases Nat.lt_or_ge i 32 with q | q
        · exact q
        · rw [Nat.testBit_lt_two_pow (Nat.lt_of_lt_of_le hn (Nat.pow_le_pow_right (by omega) q))] at hi; cases hi
      simpa [h32] using h1
    · intro h
      apply Nat.eq_of_testBit_eq
      intro i
      simp only [Nat.testBit_and, Nat.testBit_xor, Nat.testBit_two_pow_sub_one, Nat.zero_testBit]
      by_cases hi : n.testBit i = true
      · have h32 : i < 32 := by
          rcases Nat.lt_or_ge i 32 with q | q
          · exact q
          · rw [Nat.testBit_lt_two_pow (Nat.lt_of_lt_of_le hn (Nat.pow_le_pow_right (by omega) q))] at hi; cases hi
        simp [hi, h i hi, h32]
      · simp [hi]
  constructor
  · intro h
    have h0 := nI_inj32 (Nat.lt_of_le_of_lt Nat.and_le_left hn) (by omega) (show nI (n &&& (b ^^^ (2 ^ 32 - 1))) = nI 0 from h)
    have h1 := key.mp h0
    refine ⟨n, ?_, rfl, h1⟩
    refine Nat.lt_pow_two_of_testBit (n := 8) n (fun i hi => ?_)
    by_cases q : n.testBit i = true
    · have := h1 i q
      rw [Nat.testBit_lt_two_pow (Nat.lt_of_lt_of_le hb (show 256 ≤ 2 ^ i from Nat.pow_le_pow_right (n := 2) (by omega) (show 8 ≤ i by omega)))] at this
      cases this
    · simpa using q
  · rintro ⟨s, hs, e, h1⟩
    have : n = s := nI_inj32 hn (by omega) e
    subst this
    rw [key.mpr h1]; rfl
theorem c_areAlive {T : S32} {A : AB} (hA : OKA A) (hC : CT T A) (fu : Nat) (hfu : 9 ≤ fu) (x : Int32) : (∃ s, x = nI s ∧ inA A s ∧ f_X3_areAlive fu T x = some 1) ∨ ((¬ ∃ s, x = nI s ∧ inA A s) ∧ f_X3_areAlive fu T x = some 0) := by
  unfold f_X3_areAlive
  rw [c_living hA hC fu hfu]
  simp only [bd]
  have hb : bsn (al A) 8 < 256 := bsn_lt _ 8
  by_cases h : x &&& (nI (bsn (al A) 8) ^^^ (-1)) = 0
  · left
    obtain ⟨s, h1, h2, h3⟩ := (and_not x _ hb).mp h
    refine ⟨s, h2, ⟨h1, fun i hi => ?_⟩, if_pos h⟩
    have := h3 i hi
    rw [bsn_test] at this
    simp only [Bool.and_eq_true] at this
    exact this.2
  · right
    refine ⟨fun ⟨s, h2, h1, h3⟩ => h ((and_not x _ hb).mpr ⟨s, h1, h2, fun i hi => ?_⟩), if_neg h⟩
    rw [bsn_test, h3 i hi]
    have := al_lt8 hA (h3 i hi)
    simp [this]
theorem m_areAlive {M : S32} {A : AB} (hA : OKA A) (hM : MT M A) (fu : Nat) (hfu : 9 ≤ fu) (x : Int32) : (∃ s, x = nI s ∧ inA A s ∧ f_X5_areAlive fu M x = some 1) ∨ ((¬ ∃ s, x = nI s ∧ inA A s) ∧ f_X5_areAlive fu M x = some 0) := by
  unfold f_X5_areAlive
  have hb : bsn (al A) 8 < 256 := bsn_lt _ 8
  by_cases h0 : x < 0
  · right
    rw [if_pos h0]
    refine ⟨fun ⟨s, h2, h1, h3⟩ => ?_, rfl⟩
    rw [h2] at h0
    exact nI_nn (by omega) h0
  · rw [if_neg h0, m_living hA hM fu hfu]
    simp only [bd]
    by_cases h : x &&& (nI (bsn (al A) 8) ^^^ (-1)) = 0
    · left
      obtain ⟨s, h1, h2, h3⟩ := (and_not x _ hb).mp h
      refine ⟨s, h2, ⟨h1, fun i hi => ?_⟩, if_pos h⟩
      have := h3 i hi
      rw [bsn_test] at this
      simp only [Bool.and_eq_true] at this
      exact this.2
    · right
      refine ⟨fun ⟨s, h2, h1, h3⟩ => h ((and_not x _ hb).mpr ⟨s, h1, h2, fun i hi => ?_⟩), if_neg h⟩
      rw [bsn_test, h3 i hi]
      have := al_lt8 hA (h3 i hi)
      simp [this]
/-- any int asked as deaths: a set of the living, or refused on either side -/
theorem are_any {T M : S32} {A : AB} (hA : OKA A) (hC : CT T A) (hM : MT M A) (fu : Nat) (hfu : 9 ≤ fu) (x : Int32) : (∃ s, x = nI s ∧ inA A s ∧ f_X3_areAlive fu T x = some 1 ∧ f_X5_areAlive fu M x = some 1) ∨ (f_X3_areAlive fu T x = some 0 ∧ f_X5_areAlive fu M x = some 0) := by
  rcases c_areAlive hA hC fu hfu x with ⟨s, h1, h2, h3⟩ | ⟨h1, h2⟩
  · left
    rcases m_areAlive hA hM fu hfu x with ⟨s2, -, -, h6⟩ | ⟨h4, h5⟩
    · exact ⟨s, h1, h2, h3, h6⟩
    · exact absurd ⟨s, h1, h2⟩ h4
  · right
    rcases m_areAlive hA hM fu hfu x with ⟨s2, h3, h4, -⟩ | ⟨h4, h5⟩
    · exact absurd ⟨s2, h3, h4⟩ h1
    · exact ⟨h2, h5⟩
/-! who lives on a floor -/
def wh (A : AB) (f : Nat) : Nat := fa_first (fun i => al A i && decide (A 2 i = f)) 8
theorem wh_le (A : AB) (f : Nat) : wh A f ≤ 8 := fa_first_le _ 8
theorem wh_yes {A : AB} {f : Nat} (h : wh A f < 8) : al A (wh A f) = true ∧ A 2 (wh A f) = f := by
  have := fa_first_yes _ 8 h
  simp only [Bool.and_eq_true, decide_eq_true_eq] at this
  exact this
theorem wh_eq {A : AB} (hA : OKA A) {i f : Nat} (h : al A i = true) (hf : A 2 i = f) : wh A f = i := by
  have hi := al_lt8 hA h
  by_cases hw : wh A f < 8
  · obtain ⟨h1, h2⟩ := wh_yes hw
    exact hA.2.2 _ _ h1 h (h2.trans hf.symm)
  · have := fa_first_no (fun i => al A i && decide (A 2 i = f)) 8 i (by show i < wh A f; omega)
    simp [h, hf] at this
theorem wh_no {A : AB} (hA : OKA A) {f : Nat} : wh A f = 8 ↔ ∀ i, al A i = true → ¬ A 2 i = f := by
  constructor
  · intro h i hi hf
    have := wh_eq hA hi hf
    have := al_lt8 hA hi
    omega
  · intro h
    have hle := wh_le A f
    rcases Nat.lt_or_ge (wh A f) 8 with q | q
    · obtain ⟨h1, h2⟩ := wh_yes q
      exact absurd h2 (h _ h1)
    · omega
theorem c_who {T : S32} {A : AB} (hA : OKA A) (hC : CT T A) (fu : Nat) (hfu : 9 ≤ fu) {f : Nat} (hf : f ≤ 9) : f_X3_whoLivesOn fu T (nI f) = some (if wh A f < 8 then nI (wh A f) else -1) := by
  have hw := wh_le A f
  refine itr_for (fun _ _ => none) (fun k => s_X3_whoLivesOn_2 fu k T) (fun i k => k (nI f) (nI i)) (fun _ => some (if wh A f < 8 then nI (wh A f) else -1)) (wh A f) (fun _ => True) (fun k _ => ?_) (fun k i hi _ hk => ?_) fu 0 (by omega) (by omega) trivial
  · show s_X3_whoLivesOn_2 fu k T _ _ = _
    unfold s_X3_whoLivesOn_2
    by_cases h : wh A f < 8
    · obtain ⟨h1, h2⟩ := wh_yes h
      rw [if_neg (i8 h), c_alive hA hC fu h, if_pos h1]
      simp only [bd]
      rw [if_neg (by decide), gd_in h (by omega), nI_clamp (by omega), (hC.2.2 _ (al_lt h1)).1, fI, if_pos h1, h2, if_pos rfl, if_pos h]
    · rw [if_pos ((le8 (by omega)).mpr (by omega)), if_neg h]
  · show s_X3_whoLivesOn_2 fu k T _ _ = _
    have hi8 : i < 8 := by omega
    unfold s_X3_whoLivesOn_2
    rw [if_neg (i8 hi8), c_alive hA hC fu hi8]
    simp only [bd]
    rw [nI_1, hk trivial]
    by_cases h : al A i = true
    · rw [if_pos h, if_neg (by decide), gd_in hi8 (by omega), nI_clamp (by omega), (hC.2.2 _ (al_lt h)).1, fI, if_pos h]
      rw [if_neg]
      intro q
      have hb := (hA.2.1 i h).2.2.1
      have := (nI_eq (by omega) (by omega)).mp q
      have := wh_eq hA h this
      omega
    · rw [if_neg h, if_pos rfl]
theorem m_who {M : S32} {A : AB} (hA : OKA A) (hM : MT M A) (fu : Nat) (hfu : 9 ≤ fu) {f : Nat} (hf : f ≤ 9) : f_X5_whoOn fu M (nI f) = some (if wh A f < 8 then nI (wh A f) else -9) := by
  have hw := wh_le A f
  have hn := hA.1
  refine itr_for (fun _ _ => none) (fun k => s_X5_whoOn_2 fu k M) (fun i k => k (nI f) (nI i)) (fun _ => some (if wh A f < 8 then nI (wh A f) else -9)) (min (wh A f) (A 6 0)) (fun _ => True) (fun k _ => ?_) (fun k i hi _ hk => ?_) fu 0 (by omega) (by omega) trivial
  · show s_X5_whoOn_2 fu k M _ _ = _
    unfold s_X5_whoOn_2
    by_cases h : wh A f < 8
    · obtain ⟨h1, h2⟩ := wh_yes h
      have hlt := al_lt h1
      rw [show min (wh A f) (A 6 0) = wh A f by omega, hM.1, if_neg (nI_ge hlt (by omega)), gd_in h (by omega), nI_clamp (by omega), (hM.2.2 _ hlt).1, fI, if_pos h1, h2, if_pos rfl, if_pos h]
    · rw [show min (wh A f) (A 6 0) = A 6 0 by omega, hM.1, if_pos (nI_le (Nat.le_refl _) (by omega)), if_neg h]
  · show s_X5_whoOn_2 fu k M _ _ = _
    have hi8 : i < 8 := by omega
    unfold s_X5_whoOn_2
    rw [hM.1, if_neg (nI_ge (by omega) (by omega)), gd_in hi8 (by omega), nI_clamp (by omega), (hM.2.2 i (by omega)).1, nI_1, hk trivial, if_neg]
    unfold fI
    by_cases h : al A i = true
    · rw [if_pos h]
      intro q
      have hb := (hA.2.1 i h).2.2.1
      have := (nI_eq (by omega) (by omega)).mp q
      have := wh_eq hA h this
      omega
    · rw [if_neg h]
      exact fun q => nI_m1 (by omega) q.symm
