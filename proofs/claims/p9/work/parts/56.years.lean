/-! the ways of one year, and of two -/
def abo (A : AB) (i j : Nat) : Bool := al A j && decide (A 2 i < A 2 j)
theorem abo_iff {A : AB} {i j : Nat} : abo A i j = true ↔ (al A j = true ∧ A 2 i < A 2 j) := by
  unfold abo
  rw [Bool.and_eq_true, decide_eq_true_eq]
def c1n (A : AB) (i s m : Nat) : Nat := fb_ct (fun j => s.testBit j && abo A i j) m
def g1n (A : AB) (i m d s : Nat) : Nat := if s.testBit i = false ∧ c1n A i s m = d then prt A s m else 0
def Z1 (A : AB) (i m d : Nat) : Nat := fb_sm (g1n A i m d) (2 ^ m)
theorem add_eq2 {a b c d : Nat} (h1 : a = c) (h2 : b = d) : a + b = c + d := by rw [h1, h2]
theorem bit_hi {n s j : Nat} (hs : s < 2 ^ n) (hj : n ≤ j) : s.testBit j = false := Nat.testBit_lt_two_pow (Nat.lt_of_lt_of_le hs (Nat.pow_le_pow_right (n := 2) (by omega) hj))
/-- a bit more at the top -/
def tp (b : Bool) (n s : Nat) : Nat := if b then 2 ^ n + s else s
theorem tp_low {b : Bool} {n s j : Nat} (hj : j < n) : (tp b n s).testBit j = s.testBit j := by
  cases b with
  | true => exact bit_add hj
  | false => rfl
theorem tp_top {b : Bool} {n s : Nat} (hs : s < 2 ^ n) : (tp b n s).testBit n = b := by
  cases b with
  | true => exact (bit_top hs).1
  | false => exact (bit_top hs).2
theorem tp_lt {b : Bool} {n s : Nat} (hs : s < 2 ^ n) : tp b n s < 2 ^ (n + 1) := by
  have : 2 ^ (n + 1) = 2 ^ n + 2 ^ n := by rw [Nat.pow_succ]; omega
  cases b with
  | true => show 2 ^ n + s < _; omega
  | false => show s < _; omega
theorem tp_hi {b : Bool} {n s j : Nat} (hs : s < 2 ^ n) (hj : n < j) : (tp b n s).testBit j = s.testBit j := by
  rw [bit_hi (tp_lt hs) hj, bit_hi hs (by omega)]
theorem sum_tp (f : Nat → Nat) (n : Nat) : fb_sm f (2 ^ (n + 1)) = fb_sm (fun s => f (tp false n s)) (2 ^ n) + fb_sm (fun s => f (tp true n s)) (2 ^ n) := sum_two f n
theorem ite_mul {P Q : Prop} [Decidable P] [Decidable Q] (x y : Nat) (h : P ↔ Q) : (if P then x * y else 0) = (if Q then x else 0) * y := by
  by_cases q : Q
  · rw [if_pos q, if_pos (h.mpr q)]
  · rw [if_neg q, if_neg (fun w => q (h.mp w)), Nat.zero_mul]
theorem g1_tp {A : AB} {i m d s : Nat} (b : Bool) (hs : s < 2 ^ m) : g1n A i (m + 1) d (tp b m s) = if b = true ∧ i = m then 0 else if b = true ∧ abo A i m = true then (if d = 0 then 0 else g1n A i m (d - 1) s * pg A b m) else g1n A i m d s * pg A b m := by
  have hc : c1n A i (tp b m s) (m + 1) = c1n A i s m + if (b && abo A i m) = true then 1 else 0 := by
    unfold c1n
    rw [fb_ct_succ, tp_top hs, fb_ct_cong (fun j hj => by rw [tp_low hj])]
  have hp : prt A (tp b m s) (m + 1) = prt A s m * pg A b m := by
    show prt A (tp b m s) m * pg A ((tp b m s).testBit m) m = _
    rw [tp_top hs, prt_low A m (fun j hj => tp_low hj)]
  have hi : i ≠ m → (tp b m s).testBit i = s.testBit i := fun w => by
    rcases Nat.lt_or_ge i m with q | q
    · exact tp_low q
    · exact tp_hi hs (by omega)
  have hL : g1n A i (m + 1) d (tp b m s) = if (tp b m s).testBit i = false ∧ c1n A i s m + (if (b && abo A i m) = true then 1 else 0) = d then prt A s m * pg A b m else 0 := by
    show (if (tp b m s).testBit i = false ∧ c1n A i (tp b m s) (m + 1) = d then prt A (tp b m s) (m + 1) else 0) = _
    rw [hc, hp]
  by_cases q0 : b = true ∧ i = m
  · rw [if_pos q0, hL, if_neg]
    rintro ⟨w, -⟩
    rw [q0.2, tp_top hs, q0.1] at w
    cases w
  · rw [if_neg q0]
    by_cases q2 : b = true ∧ abo A i m = true
    · have hne : i ≠ m := fun w => q0 ⟨q2.1, w⟩
      have hb : (b && abo A i m) = true := by rw [q2.1, q2.2]; rfl
      rw [if_pos q2]
      by_cases q3 : d = 0
      · rw [if_pos q3, hL, if_neg]
        rintro ⟨-, w⟩
        rw [if_pos hb] at w
        omega
      · rw [if_neg q3, hL]
        refine ite_mul _ _ ?_
        rw [hi hne, if_pos hb]
        exact ⟨fun w => ⟨w.1, by have := w.2; omega⟩, fun w => ⟨w.1, by have := w.2; omega⟩⟩
    · rw [if_neg q2, hL]
      have hb : ¬ (b && abo A i m) = true := fun w => q2 (by rwa [Bool.and_eq_true] at w)
      have hbit : (tp b m s).testBit i = s.testBit i := by
        by_cases q : i = m
        · have hbf : b = false := by
            cases b with
            | true => exact absurd ⟨rfl, q⟩ q0
            | false => rfl
          rw [q, tp_top hs, hbf, bit_hi hs (Nat.le_refl _)]
        · exact hi q
      refine ite_mul _ _ ?_
      rw [if_neg hb, Nat.add_zero, hbit]
theorem sv_1 {A : AB} (hA : OKA A) {j : Nat} (h : al A j = true) : sv A j 1 = 10 - mch A j := by
  obtain ⟨b0, b1, -⟩ := hA.2.1 j h
  show 1 * (10 - chn (A 0 j) (min 99 (A 1 j + 0))) = _
  rw [Nat.one_mul, show min 99 (A 1 j + 0) = A 1 j by omega]
  rfl
theorem ZF_1 {A : AB} (hA : OKA A) {i : Nat} (hi : al A i = true) : ZF A i 1 (A 6 0) (Z1 A i) := by
  refine ⟨fun d => ?_, fun m d hm => ?_⟩
  · show fb_sm (g1n A i 0 d) 1 = _
    show 0 + g1n A i 0 d 0 = _
    rw [Nat.zero_add]
    unfold g1n
    rw [Nat.zero_testBit]
    show (if false = false ∧ 0 = d then 1 else 0) = _
    by_cases q : d = 0
    · rw [if_pos ⟨rfl, q.symm⟩, if_pos q]
    · rw [if_neg (fun w => q w.2.symm), if_neg q]
  · have e0 : fb_sm (fun s => g1n A i (m + 1) d (tp false m s)) (2 ^ m) = Z1 A i m d * pg A false m := by
      unfold Z1
      rw [← sm_mul]
      refine fb_sm_cong (fun s hs => ?_)
      rw [g1_tp false hs, if_neg (by simp), if_neg (by simp)]
    have hsum : Z1 A i (m + 1) d = Z1 A i m d * pg A false m + fb_sm (fun s => g1n A i (m + 1) d (tp true m s)) (2 ^ m) := by
      rw [← e0]; exact sum_tp _ m
    have hps := pg_sum hA m
    rw [hsum]
    by_cases q : al A m = true ∧ A 2 i < A 2 m
    · have hne : i ≠ m := fun w => by rw [w] at q; omega
      have hml := mch_le hA q.1
      have p0 : pg A false m = sv A m 1 := by rw [sv_1 hA q.1]; unfold pg; rw [if_pos q.1, if_neg (by decide)]
      have p1 : pg A true m = 10 ^ 1 - sv A m 1 := by omega
      rw [if_pos q]
      by_cases q2 : d = 0
      · rw [if_pos q2, p0, q2]
        rw [show fb_sm (fun s => g1n A i (m + 1) 0 (tp true m s)) (2 ^ m) = fb_sm (fun _ => 0) (2 ^ m) from fb_sm_cong (fun s hs => by
          rw [g1_tp true hs, if_neg (fun w => hne w.2), if_pos ⟨rfl, abo_iff.mpr q⟩, if_pos rfl]), sm_zero, Nat.add_zero]
      · rw [if_neg q2, p0, ← p1]
        refine add_eq2 rfl ?_
        unfold Z1
        rw [← sm_mul]
        refine fb_sm_cong (fun s hs => ?_)
        rw [g1_tp true hs, if_neg (fun w => hne w.2), if_pos ⟨rfl, abo_iff.mpr q⟩, if_neg q2]
    · rw [if_neg q]
      by_cases q2 : m = i
      · subst q2
        rw [if_pos rfl, sv_1 hA hi]
        rw [show fb_sm (fun s => g1n A m (m + 1) d (tp true m s)) (2 ^ m) = fb_sm (fun _ => 0) (2 ^ m) from fb_sm_cong (fun s hs => by
          rw [g1_tp true hs, if_pos ⟨rfl, rfl⟩]), sm_zero, Nat.add_zero]
        unfold pg
        rw [if_pos hi, if_neg (by decide)]
      · rw [if_neg q2, show 10 ^ 1 = pg A false m + pg A true m by omega, Nat.mul_add]
        refine add_eq2 rfl ?_
        unfold Z1
        rw [← sm_mul]
        refine fb_sm_cong (fun s hs => ?_)
        rw [g1_tp true hs, if_neg (fun w => q2 w.2.symm), if_neg (fun w => q (abo_iff.mp w.2))]
/-! two years -/
def mc2 (A : AB) (j : Nat) : Nat := chn (A 0 j) (min 99 (A 1 j + 1))
def pq (A : AB) (b c : Bool) (j : Nat) : Nat := if al A j && !b then (if c then mc2 A j else 10 - mc2 A j) else (if c then 0 else 10)
theorem pg_yr (A : AB) (s : Nat) (c : Bool) (j : Nat) : pg (yr A s) c j = pq A (s.testBit j) c j := by
  unfold pg pq
  rw [al_yr]
  rfl
def w2 (A : AB) (s t m : Nat) : Nat := prt A s m * prt (yr A s) t m
def c2n (A : AB) (i s t m : Nat) : Nat := fb_ct (fun j => (s.testBit j || t.testBit j) && abo A i j) m
def g2n (A : AB) (i m d s t : Nat) : Nat := if (s.testBit i = false ∧ t.testBit i = false) ∧ c2n A i s t m = d then w2 A s t m else 0
def Z2 (A : AB) (i m d : Nat) : Nat := fb_sm (fun s => fb_sm (fun t => g2n A i m d s t) (2 ^ m)) (2 ^ m)
theorem prt_yr (A : AB) {s s' t t' : Nat} : ∀ n, (∀ j, j < n → s.testBit j = s'.testBit j) → (∀ j, j < n → t.testBit j = t'.testBit j) → prt (yr A s) t n = prt (yr A s') t' n
  | 0, _, _ => rfl
  | n + 1, h, k => by
    show prt (yr A s) t n * _ = prt (yr A s') t' n * _
    rw [prt_yr A n (fun j hj => h j (by omega)) (fun j hj => k j (by omega)), pg_yr, pg_yr, h n (by omega), k n (by omega)]
theorem g2_tp {A : AB} {i m d s t : Nat} (b c : Bool) (hs : s < 2 ^ m) (ht : t < 2 ^ m) : g2n A i (m + 1) d (tp b m s) (tp c m t) = if (b || c) = true ∧ i = m then 0 else if (b || c) = true ∧ abo A i m = true then (if d = 0 then 0 else g2n A i m (d - 1) s t * (pg A b m * pq A b c m)) else g2n A i m d s t * (pg A b m * pq A b c m) := by
  have hc : c2n A i (tp b m s) (tp c m t) (m + 1) = c2n A i s t m + if ((b || c) && abo A i m) = true then 1 else 0 := by
    unfold c2n
    rw [fb_ct_succ, tp_top hs, tp_top ht, fb_ct_cong (fun j hj => by rw [tp_low hj, tp_low hj])]
  have hp : w2 A (tp b m s) (tp c m t) (m + 1) = w2 A s t m * (pg A b m * pq A b c m) := by
    show (prt A (tp b m s) m * pg A ((tp b m s).testBit m) m) * (prt (yr A (tp b m s)) (tp c m t) m * pg (yr A (tp b m s)) ((tp c m t).testBit m) m) = _
    rw [pg_yr, tp_top hs, tp_top ht, prt_low A m (fun j hj => tp_low hj), prt_yr A m (fun j hj => tp_low hj) (fun j hj => tp_low hj)]
    unfold w2
    ac_rfl
  have hi : i ≠ m → (tp b m s).testBit i = s.testBit i ∧ (tp c m t).testBit i = t.testBit i := fun w => by
    rcases Nat.lt_or_ge i m with q | q
    · exact ⟨tp_low q, tp_low q⟩
    · exact ⟨tp_hi hs (by omega), tp_hi ht (by omega)⟩
  have hL : g2n A i (m + 1) d (tp b m s) (tp c m t) = if ((tp b m s).testBit i = false ∧ (tp c m t).testBit i = false) ∧ c2n A i s t m + (if ((b || c) && abo A i m) = true then 1 else 0) = d then w2 A s t m * (pg A b m * pq A b c m) else 0 := by
    show (if ((tp b m s).testBit i = false ∧ (tp c m t).testBit i = false) ∧ c2n A i (tp b m s) (tp c m t) (m + 1) = d then w2 A (tp b m s) (tp c m t) (m + 1) else 0) = _
    rw [hc, hp]
  by_cases q0 : (b || c) = true ∧ i = m
  · rw [if_pos q0, hL, if_neg]
    rintro ⟨⟨w1, w2⟩, -⟩
    rw [q0.2, tp_top hs] at w1
    rw [q0.2, tp_top ht] at w2
    have := q0.1
    rw [w1, w2] at this
    cases this
  · rw [if_neg q0]
    by_cases q2 : (b || c) = true ∧ abo A i m = true
    · have hne : i ≠ m := fun w => q0 ⟨q2.1, w⟩
      have hb : ((b || c) && abo A i m) = true := by rw [q2.1, q2.2]; rfl
      rw [if_pos q2]
      by_cases q3 : d = 0
      · rw [if_pos q3, hL, if_neg]
        rintro ⟨-, w⟩
        rw [if_pos hb] at w
        omega
      · rw [if_neg q3, hL]
        refine ite_mul _ _ ?_
        rw [(hi hne).1, (hi hne).2, if_pos hb]
        exact ⟨fun w => ⟨w.1, by have := w.2; omega⟩, fun w => ⟨w.1, by have := w.2; omega⟩⟩
    · rw [if_neg q2, hL]
      have hb : ¬ ((b || c) && abo A i m) = true := fun w => q2 (by rwa [Bool.and_eq_true] at w)
      have hbit : (tp b m s).testBit i = s.testBit i ∧ (tp c m t).testBit i = t.testBit i := by
        by_cases q : i = m
        · have hbf : b = false ∧ c = false := by
            cases b with
            | true => exact absurd ⟨rfl, q⟩ q0
            | false =>
              cases c with
              | true => exact absurd ⟨rfl, q⟩ q0
              | false => exact ⟨rfl, rfl⟩
          rw [q, tp_top hs, tp_top ht, hbf.1, hbf.2, bit_hi hs (Nat.le_refl _), bit_hi ht (Nat.le_refl _)]
          exact ⟨rfl, rfl⟩
        · exact hi q
      refine ite_mul _ _ ?_
      rw [if_neg hb, Nat.add_zero, hbit.1, hbit.2]
/-- one of the four quarters of the sum -/
def qr (A : AB) (i m d : Nat) (b c : Bool) : Nat := fb_sm (fun s => fb_sm (fun t => g2n A i (m + 1) d (tp b m s) (tp c m t)) (2 ^ m)) (2 ^ m)
theorem Z2_four (A : AB) (i m d : Nat) : Z2 A i (m + 1) d = qr A i m d false false + qr A i m d false true + (qr A i m d true false + qr A i m d true true) := by
  unfold Z2 qr
  rw [sum_tp]
  refine add_eq2 ?_ ?_
  · rw [← fb_sm_add]
    exact fb_sm_cong (fun s _ => sum_tp _ m)
  · rw [← fb_sm_add]
    exact fb_sm_cong (fun s _ => sum_tp _ m)
theorem qr_is (A : AB) (i m d : Nat) (b c : Bool) : qr A i m d b c = if (b || c) = true ∧ i = m then 0 else if (b || c) = true ∧ abo A i m = true then (if d = 0 then 0 else Z2 A i m (d - 1) * (pg A b m * pq A b c m)) else Z2 A i m d * (pg A b m * pq A b c m) := by
  have key : ∀ (f : Nat → Nat → Nat), (∀ s, s < 2 ^ m → ∀ t, t < 2 ^ m → g2n A i (m + 1) d (tp b m s) (tp c m t) = f s t) → qr A i m d b c = fb_sm (fun s => fb_sm (fun t => f s t) (2 ^ m)) (2 ^ m) := fun f hf => fb_sm_cong (fun s hs => fb_sm_cong (fun t ht => hf s hs t ht))
  have zz : fb_sm (fun s => fb_sm (fun t => (fun _ _ => 0 : Nat → Nat → Nat) s t) (2 ^ m)) (2 ^ m) = 0 := by
    show fb_sm (fun s => fb_sm (fun _ => 0) (2 ^ m)) (2 ^ m) = 0
    rw [sm_zero, sm_zero]
  have zm : ∀ e v, fb_sm (fun s => fb_sm (fun t => (fun s t => g2n A i m e s t * v) s t) (2 ^ m)) (2 ^ m) = Z2 A i m e * v := by
    intro e v
    unfold Z2
    rw [← sm_mul]
    exact fb_sm_cong (fun s _ => sm_mul v _ _)
  by_cases q : (b || c) = true ∧ i = m
  · rw [if_pos q, key (fun _ _ => 0) (fun s hs t ht => by rw [g2_tp b c hs ht, if_pos q])]
    exact zz
  · rw [if_neg q]
    by_cases q2 : (b || c) = true ∧ abo A i m = true
    · rw [if_pos q2]
      by_cases q3 : d = 0
      · rw [if_pos q3, key (fun _ _ => 0) (fun s hs t ht => by rw [g2_tp b c hs ht, if_neg q, if_pos q2, if_pos q3])]
        exact zz
      · rw [if_neg q3, key (fun s t => g2n A i m (d - 1) s t * (pg A b m * pq A b c m)) (fun s hs t ht => by rw [g2_tp b c hs ht, if_neg q, if_pos q2, if_neg q3])]
        exact zm _ _
    · rw [if_neg q2, key (fun s t => g2n A i m d s t * (pg A b m * pq A b c m)) (fun s hs t ht => by rw [g2_tp b c hs ht, if_neg q, if_neg q2])]
      exact zm _ _
theorem mc2_le {A : AB} (hA : OKA A) {j : Nat} (h : al A j = true) : mc2 A j ≤ 10 := by
  obtain ⟨b0, b1, -⟩ := hA.2.1 j h
  exact chn_le _ (by omega) _ (by omega)
theorem sv_2 {A : AB} (hA : OKA A) {j : Nat} (h : al A j = true) : sv A j 2 = (10 - mch A j) * (10 - mc2 A j) := by
  show sv A j 1 * (10 - chn (A 0 j) (min 99 (A 1 j + 1))) = _
  rw [sv_1 hA h]
  rfl
theorem pq_small : ∀ x, x < 11 → ∀ y, y < 11 → ((10 - x) * y + (x * 10 + x * 0) = 10 ^ 2 - (10 - x) * (10 - y)) ∧ ((10 - x) * (10 - y) + (10 - x) * y + (x * 10 + x * 0) = 10 ^ 2) := by decide +kernel
theorem pq_vals {A : AB} (hA : OKA A) (j : Nat) : (al A j = true → pg A false j * pq A false false j = sv A j 2 ∧ pg A false j * pq A false true j + (pg A true j * pq A true false j + pg A true j * pq A true true j) = 10 ^ 2 - sv A j 2) ∧ pg A false j * pq A false false j + pg A false j * pq A false true j + (pg A true j * pq A true false j + pg A true j * pq A true true j) = 10 ^ 2 := by
  unfold pg pq
  by_cases h : al A j = true
  · have m1 := mch_le hA h
    have m2 := mc2_le hA h
    rw [sv_2 hA h]
    simp only [h, Bool.not_false, Bool.not_true, Bool.and_self, Bool.and_false, ↓reduceIte, Bool.false_eq_true]
    generalize mch A j = x at *
    generalize mc2 A j = y at *
    obtain ⟨k1, k2⟩ := pq_small x (by omega) y (by omega)
    exact ⟨fun _ => ⟨trivial, k1⟩, k2⟩
  · have h : al A j = false := by simpa using h
    simp [h]
theorem qr_ff (A : AB) (i m d : Nat) : qr A i m d false false = Z2 A i m d * (pg A false m * pq A false false m) := by
  rw [qr_is, if_neg (by simp), if_neg (by simp)]
theorem qr_i {A : AB} {i m : Nat} (d : Nat) {b c : Bool} (h : (b || c) = true) (q : i = m) : qr A i m d b c = 0 := by
  rw [qr_is, if_pos ⟨h, q⟩]
theorem qr_a {A : AB} {i m : Nat} (d : Nat) {b c : Bool} (h : (b || c) = true) (q : i ≠ m) (ha : abo A i m = true) : qr A i m d b c = if d = 0 then 0 else Z2 A i m (d - 1) * (pg A b m * pq A b c m) := by
  rw [qr_is, if_neg (fun w => q w.2), if_pos ⟨h, ha⟩]
theorem qr_o {A : AB} {i m : Nat} (d : Nat) {b c : Bool} (q : i ≠ m) (ha : ¬ abo A i m = true) : qr A i m d b c = Z2 A i m d * (pg A b m * pq A b c m) := by
  rw [qr_is, if_neg (fun w => q w.2), if_neg (fun w => ha w.2)]
theorem ZF_2 {A : AB} (hA : OKA A) {i : Nat} (hi : al A i = true) : ZF A i 2 (A 6 0) (Z2 A i) := by
  refine ⟨fun d => ?_, fun m d hm => ?_⟩
  · show 0 + (0 + g2n A i 0 d 0 0) = _
    rw [Nat.zero_add, Nat.zero_add]
    unfold g2n
    rw [Nat.zero_testBit]
    show (if (false = false ∧ false = false) ∧ 0 = d then 1 * 1 else 0) = _
    by_cases q : d = 0
    · rw [if_pos ⟨⟨rfl, rfl⟩, q.symm⟩, if_pos q]
    · rw [if_neg (fun w => q w.2.symm), if_neg q]
  · obtain ⟨p1, p2⟩ := pq_vals hA m
    rw [Z2_four, qr_ff]
    by_cases q : al A m = true ∧ A 2 i < A 2 m
    · have hne : i ≠ m := fun w => by rw [w] at q; omega
      have ha := abo_iff.mpr q
      obtain ⟨p3, p4⟩ := p1 q.1
      rw [if_pos q, qr_a d (b := false) (c := true) rfl hne ha, qr_a d (b := true) (c := false) rfl hne ha, qr_a d (b := true) (c := true) rfl hne ha, p3]
      by_cases q2 : d = 0
      · subst q2
        rfl
      · rw [if_neg q2, if_neg q2, if_neg q2, if_neg q2, ← p4, Nat.mul_add, Nat.mul_add]
        omega
    · rw [if_neg q]
      by_cases q2 : m = i
      · subst q2
        obtain ⟨p3, p4⟩ := p1 hi
        rw [if_pos rfl, qr_i d (b := false) (c := true) rfl rfl, qr_i d (b := true) (c := false) rfl rfl, qr_i d (b := true) (c := true) rfl rfl, p3, Nat.add_zero]
      · have hna : ¬ abo A i m = true := fun w => q (abo_iff.mp w)
        have hne : i ≠ m := fun w => q2 w.symm
        rw [if_neg q2, qr_o d (b := false) (c := true) hne hna, qr_o d (b := true) (c := false) hne hna, qr_o d (b := true) (c := true) hne hna, ← p2, Nat.mul_add, Nat.mul_add, Nat.mul_add]
