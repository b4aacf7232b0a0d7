/-! sums over sets of deaths, lodger by lodger -/
theorem sm_one (v : Nat) {c : Nat} : ∀ n, fb_sm (fun d => if d = c then v else 0) n = if c < n then v else 0
  | 0 => by simp [fb_sm]
  | n + 1 => by
    rw [fb_sm_succ, sm_one v n]
    by_cases q : n = c
    · rw [if_neg (by omega), if_pos q, if_pos (by omega), Nat.zero_add]
    · rw [if_neg q, Nat.add_zero]
      by_cases q2 : c < n
      · rw [if_pos q2, if_pos (by omega)]
      · rw [if_neg q2, if_neg (by omega)]
theorem sm_zero (n : Nat) : fb_sm (fun _ => 0) n = 0 := by rw [fb_sm_const]; omega
/-- a sum over d from k on, of sums -/
theorem sm_swap (G : Nat → Nat → Nat) (k : Nat) : ∀ n, fb_sm (fun d => if k ≤ d then fb_sm (fun s => G d s) n else 0) 9 = fb_sm (fun s => fb_sm (fun d => if k ≤ d then G d s else 0) 9) n
  | 0 => by
    rw [show fb_sm (fun d => if k ≤ d then fb_sm (fun s => G d s) 0 else 0) 9 = fb_sm (fun _ => 0) 9 from fb_sm_cong (fun d _ => by
      show (if k ≤ d then 0 else 0) = 0
      split <;> rfl), sm_zero]
    rfl
  | n + 1 => by
    rw [fb_sm_succ (fun s => fb_sm (fun d => if k ≤ d then G d s else 0) 9) n, ← sm_swap G k n, ← fb_sm_add]
    refine fb_sm_cong (fun d _ => ?_)
    by_cases q : k ≤ d
    · rw [if_pos q, if_pos q, if_pos q, fb_sm_succ]
    · rw [if_neg q, if_neg q, if_neg q]
theorem sm_pick (P : Prop) [Decidable P] (c v k : Nat) (hc : c ≤ 8) : fb_sm (fun d => if k ≤ d then (if P ∧ c = d then v else 0) else 0) 9 = if P ∧ k ≤ c then v else 0 := by
  rw [show fb_sm (fun d => if k ≤ d then (if P ∧ c = d then v else 0) else 0) 9 = fb_sm (fun d => if d = c then (if P ∧ k ≤ c then v else 0) else 0) 9 from fb_sm_cong (fun d _ => by
    by_cases q : d = c
    · subst q
      rw [if_pos rfl]
      by_cases q2 : k ≤ d
      · rw [if_pos q2]
        by_cases q3 : P
        · rw [if_pos ⟨q3, rfl⟩, if_pos ⟨q3, q2⟩]
        · rw [if_neg (fun w => q3 w.1), if_neg (fun w => q3 w.1)]
      · rw [if_neg q2, if_neg (fun w => q2 w.2)]
    · rw [if_neg q]
      by_cases q2 : k ≤ d
      · rw [if_pos q2, if_neg (fun w => q w.2.symm)]
      · rw [if_neg q2]), sm_one, if_pos (by omega)]
theorem lin2 (z1 z2 p e l c a1 a2 q : Nat) (h1 : z1 * p = a1 * q) (h2 : z2 * p = a2 * q) : (z1 * l + z2 * c) * (p * e) = (a1 * l + a2 * c) * (q * e) := by
  have e1 : (z1 * l + z2 * c) * (p * e) = (z1 * p) * (l * e) + (z2 * p) * (c * e) := by
    rw [Nat.add_mul]
    congr 1 <;> ac_rfl
  have e2 : (a1 * l + a2 * c) * (q * e) = (a1 * q) * (l * e) + (a2 * q) * (c * e) := by
    rw [Nat.add_mul]
    congr 1 <;> ac_rfl
  rw [e1, e2, h1, h2]
/-- how many ways, weighed, by which just d above have died among the first m -/
def ZF (A : AB) (i n N : Nat) (Z : Nat → Nat → Nat) : Prop := (∀ d, Z 0 d = if d = 0 then 1 else 0) ∧ ∀ m d, m < N → Z (m + 1) d = if al A m = true ∧ A 2 i < A 2 m then (if d = 0 then Z m 0 * sv A m n else Z m d * sv A m n + Z m (d - 1) * (10 ^ n - sv A m n)) else if m = i then Z m d * sv A m n else Z m d * 10 ^ n
theorem Z_pa {A : AB} {i n N : Nat} {Z : Nat → Nat → Nat} (h : ZF A i n N Z) : ∀ m, m ≤ N → ∀ d, Z m d * (pb A i n m * (if i < m then 10 ^ n else 1)) = pa A i n m d * ((if i < m then sv A i n else 1) * (10 ^ n) ^ m)
  | 0, _, d => by
    rw [h.1 d, if_neg (Nat.not_lt_zero i), if_neg (Nat.not_lt_zero i)]
    show (if d = 0 then 1 else 0) * (1 * 1) = (if d = 0 then 1 else 0) * (1 * (10 ^ n) ^ 0)
    rw [Nat.pow_zero]
  | m + 1, hm, d => by
    have ih := Z_pa h m (by omega)
    rw [h.2 m d (by omega)]
    show _ = (if al A m = true ∧ A 2 i < A 2 m then padd (pa A i n m) (sv A m n) (10 ^ n) else pa A i n m) d * _
    show _ * ((if al A m = true ∧ A 2 i < A 2 m then pb A i n m * 10 ^ n else pb A i n m) * _) = _
    rw [Nat.pow_succ (10 ^ n) m]
    by_cases q : al A m = true ∧ A 2 i < A 2 m
    · rw [if_pos q, if_pos q, if_pos q]
      have hne : i ≠ m := fun w => by rw [w] at q; omega
      have hi : (i < m + 1) = (i < m) := propext ⟨fun w => by omega, fun w => by omega⟩
      simp only [hi]
      generalize 10 ^ n = e at *
      generalize (if i < m then e else 1) = x at *
      generalize (if i < m then sv A i n else 1) = y at *
      have r1 : ∀ b : Nat, b * e * x = b * x * e := fun b => by ac_rfl
      have r2 : y * (e ^ m * e) = y * e ^ m * e := by ac_rfl
      rw [r1, r2]
      unfold padd
      by_cases q2 : d = 0
      · rw [if_pos q2, if_pos q2]
        have := lin2 (Z m 0) 0 (pb A i n m * x) e (sv A m n) 0 (pa A i n m 0) 0 (y * e ^ m) (ih 0) (by omega)
        simpa using this
      · rw [if_neg q2, if_neg q2]
        exact lin2 (Z m d) (Z m (d - 1)) (pb A i n m * x) e (sv A m n) (e - sv A m n) (pa A i n m d) (pa A i n m (d - 1)) (y * e ^ m) (ih d) (ih (d - 1))
    · rw [if_neg q, if_neg q, if_neg q]
      by_cases q2 : m = i
      · subst q2
        rw [if_pos rfl, if_pos (by omega), if_pos (by omega)]
        have ihd := ih d
        rw [if_neg (by omega), if_neg (by omega)] at ihd
        generalize 10 ^ n = e at *
        have e1 : Z m d * sv A m n * (pb A m n m * e) = (Z m d * (pb A m n m * 1)) * (sv A m n * e) := by rw [Nat.mul_one]; ac_rfl
        have e2 : pa A m n m d * (sv A m n * (e ^ m * e)) = (pa A m n m d * (1 * e ^ m)) * (sv A m n * e) := by rw [Nat.one_mul]; ac_rfl
        rw [e1, e2, ihd]
      · rw [if_neg q2]
        have hi : (i < m + 1) = (i < m) := propext ⟨fun w => by omega, fun w => by omega⟩
        simp only [hi]
        have ihd := ih d
        generalize 10 ^ n = e at *
        generalize (if i < m then e else 1) = x at *
        generalize (if i < m then sv A i n else 1) = y at *
        have e1 : Z m d * e * (pb A i n m * x) = (Z m d * (pb A i n m * x)) * e := by ac_rfl
        have e2 : pa A i n m d * (y * (e ^ m * e)) = (pa A i n m d * (y * e ^ m)) * e := by ac_rfl
        rw [e1, e2, ihd]
theorem pa_tail {A : AB} {i n : Nat} : ∀ m, A 6 0 ≤ m → pa A i n m = pa A i n (A 6 0) ∧ pb A i n m = pb A i n (A 6 0)
  | 0, h => by rw [show A 6 0 = 0 by omega]; exact ⟨rfl, rfl⟩
  | m + 1, h => by
    rcases Nat.eq_or_lt_of_le h with q | q
    · rw [← q]; exact ⟨rfl, rfl⟩
    · obtain ⟨e1, e2⟩ := pa_tail (A := A) (i := i) (n := n) m (by omega)
      have ha : ¬ (al A m = true ∧ A 2 i < A 2 m) := fun w => by rw [al_f (A := A) (i := m) (by omega)] at w; exact absurd w.1 (by decide)
      refine ⟨?_, ?_⟩
      · show (if al A m = true ∧ A 2 i < A 2 m then _ else _) = _
        rw [if_neg ha]; exact e1
      · show (if al A m = true ∧ A 2 i < A 2 m then _ else _) = _
        rw [if_neg ha]; exact e2
/-- out of the ways: the class's fraction is the reference's -/
theorem Z_end {A : AB} (hA : OKA A) {i n k : Nat} (hi : al A i = true) {Z : Nat → Nat → Nat} (h : ZF A i n (A 6 0) Z) : fb_sm (fun d => if k ≤ d then Z (A 6 0) d else 0) 9 * (pb A i n 8 * 10 ^ n) = (tl (pa A i n 8) k 9 * sv A i n) * (10 ^ n) ^ (A 6 0) := by
  have hN := al_lt hi
  obtain ⟨e1, e2⟩ := pa_tail (A := A) (i := i) (n := n) 8 hA.1
  have hz := Z_pa h (A 6 0) (Nat.le_refl _)
  simp only [if_pos hN] at hz
  rw [e1, e2]
  unfold tl
  rw [← sm_mul, Nat.mul_assoc (fb_sm _ 9), ← sm_mul]
  refine fb_sm_cong (fun d _ => ?_)
  by_cases q : k ≤ d
  · rw [if_pos q, if_pos q]; exact hz d
  · rw [if_neg q, if_neg q, Nat.zero_mul, Nat.zero_mul]
