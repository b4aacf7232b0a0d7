/-! a fraction in least terms: Euclid's steps of the class -/
theorem sh_loop (fu : Nat) (S : S64) : ∀ k t a b m, b < 2 ^ k → t + 2 * k < 200 → 2 * k < m → a < 2 ^ 63 → b < 2 ^ 63 → f_X1_shorten_13 fu m (lN a) (lN b) (nI t) S = f_X1_shorten_43 fu (lN (Nat.gcd a b)) S := by
  have one : ∀ m t a b, t < 200 → a < 2 ^ 63 → b < 2 ^ 63 → f_X1_shorten_13 fu (m + 1) (lN a) (lN b) (nI t) S = if b = 0 then f_X1_shorten_43 fu (lN a) S else f_X1_shorten_13 fu m (lN b) (lN (a % b)) (nI (t + 1)) S := by
    intro m t a b ht ha hb
    show s_X1_shorten_13 fu (f_X1_shorten_13 fu m) (lN a) (lN b) (nI t) S = _
    unfold s_X1_shorten_13
    rw [if_neg (show ¬ (200 : Int32) ≤ nI t from fun w => by have := (nI_leI (a := 200) (by omega) (by omega)).mp w; omega)]
    by_cases q : b = 0
    · subst q
      rw [if_pos ((lg_cmp_eq (lN 0) 0).mpr rfl), if_pos rfl]
    · have hz : ¬ lN b = (0 : Int64) := fun w => q ((lN_z hb).mp w)
      rw [if_neg (fun w => hz ((lg_cmp_eq _ _).mp w)), if_neg q]
      unfold zl
      rw [if_neg hz, pk_lRem ha (by omega) hb, nI_1]
  intro k
  induction k with
  | zero =>
    intro t a b m hb ht hm ha hb2
    have hb0 : b = 0 := by
      have : 2 ^ 0 = 1 := rfl
      omega
    obtain ⟨m, rfl⟩ : ∃ m', m = m' + 1 := ⟨m - 1, by omega⟩
    rw [one m t a b (by omega) ha hb2, if_pos hb0, hb0, Nat.gcd_zero_right]
  | succ k ih =>
    intro t a b m hb ht hm ha hb2
    obtain ⟨m, rfl⟩ : ∃ m', m = m' + 1 + 1 := ⟨m - 2, by omega⟩
    rw [one (m + 1) t a b (by omega) ha hb2]
    by_cases q : b = 0
    · rw [if_pos q, q, Nat.gcd_zero_right]
    · have h1 : a % b < b := Nat.mod_lt _ (by omega)
      have g1 : Nat.gcd a b = Nat.gcd b (a % b) := by rw [Nat.gcd_comm b (a % b), ← Nat.gcd_rec, Nat.gcd_comm]
      rw [if_neg q, one m (t + 1) b (a % b) (by omega) hb2 (by omega), g1]
      by_cases q2 : a % b = 0
      · rw [if_pos q2, q2, Nat.gcd_zero_right]
      · have h2 : b % (a % b) < a % b := Nat.mod_lt _ (by omega)
        have g2 : Nat.gcd b (a % b) = Nat.gcd (a % b) (b % (a % b)) := by rw [Nat.gcd_comm (a % b) (b % (a % b)), ← Nat.gcd_rec, Nat.gcd_comm]
        have h3 : b % (a % b) + (a % b) ≤ b := by
          have d := Nat.div_add_mod b (a % b)
          have d1 : 1 ≤ b / (a % b) := Nat.div_pos (by omega) (by omega)
          have d2 : (a % b) * 1 ≤ (a % b) * (b / (a % b)) := Nat.mul_le_mul_left _ d1
          omega
        have h4 : 2 ^ (k + 1) = 2 ^ k + 2 ^ k := by rw [Nat.pow_succ]; omega
        rw [if_neg q2, g2]
        exact ih (t + 1 + 1) (a % b) (b % (a % b)) m (by omega) (by omega) (by omega) (by omega) (by omega)
theorem c_short {fu : Nat} (hfu : 1000 ≤ fu) {S S2 : S64} {a b : Nat} (ha : a < 2 ^ 60) (hb : b < 2 ^ 60) (hb0 : 0 < b) (h1 : S 1 0 = lN a) (h2 : S 2 0 = lN b) (h : f_X1_shorten fu S = some S2) : S2 1 0 = lN (a / Nat.gcd a b) ∧ S2 2 0 = lN (b / Nat.gcd a b) := by
  have hg0 : 0 < Nat.gcd b a := Nat.gcd_pos_of_pos_left _ hb0
  have hgl : Nat.gcd b a ≤ b := Nat.gcd_le_left _ hb0
  unfold f_X1_shorten at h
  rw [h1, h2, show (0 : Int32) = nI 0 from rfl, sh_loop fu S 60 0 b a fu ha (by omega) (by omega) (by omega) (by omega)] at h
  rw [Nat.gcd_comm a b]
  generalize Nat.gcd b a = g at h hg0 hgl ⊢
  unfold f_X1_shorten_43 at h
  have hz : ¬ lN g = (0 : Int64) := fun w => by have := (lN_z (by omega)).mp w; omega
  by_cases q : g = 1
  · rw [if_pos ((lg_cmp_le _ _).mpr (by rw [q]; decide))] at h
    injection h with h
    rw [← h, h1, h2, q, Nat.div_one, Nat.div_one]
    exact ⟨rfl, rfl⟩
  · rw [if_neg (fun w => by
      have w := (lg_cmp_le _ _).mp w
      have := (pk_lLE (a := g) (b := 1) (by omega) (by omega)).mp w
      omega)] at h
    unfold zl at h
    rw [if_neg hz, if_neg hz, h1, h2, pk_lDiv (by omega) hg0 (by omega), pk_lDiv (by omega) hg0 (by omega)] at h
    injection h with h
    rw [← h]
    exact ⟨rfl, rfl⟩
/-- two fractions of one worth have the same least terms -/
theorem dvd_of_cross {a b c d : Nat} (h : a * d = c * b) (hab : Nat.Coprime a b) : a ∣ c := hab.dvd_of_dvd_mul_right ⟨d, h.symm⟩
theorem least_eq {a b c d : Nat} (hb : 0 < b) (hd : 0 < d) (h : a * d = c * b) : a / Nat.gcd a b = c / Nat.gcd c d ∧ b / Nat.gcd a b = d / Nat.gcd c d := by
  have g0 : 0 < Nat.gcd a b := Nat.gcd_pos_of_pos_right _ hb
  have k0 : 0 < Nat.gcd c d := Nat.gcd_pos_of_pos_right _ hd
  have c1 := Nat.coprime_div_gcd_div_gcd g0
  have c2 := Nat.coprime_div_gcd_div_gcd k0
  have ea := Nat.mul_div_cancel' (Nat.gcd_dvd_left a b)
  have eb := Nat.mul_div_cancel' (Nat.gcd_dvd_right a b)
  have ec := Nat.mul_div_cancel' (Nat.gcd_dvd_left c d)
  have ed := Nat.mul_div_cancel' (Nat.gcd_dvd_right c d)
  generalize Nat.gcd a b = g at *
  generalize Nat.gcd c d = k at *
  generalize a / g = a' at *
  generalize b / g = b' at *
  generalize c / k = c' at *
  generalize d / k = d' at *
  subst ea; subst eb; subst ec; subst ed
  have hx : a' * d' = c' * b' := by
    have e1 : (g * a') * (k * d') = (g * k) * (a' * d') := by ac_rfl
    have e2 : (k * c') * (g * b') = (g * k) * (c' * b') := by ac_rfl
    rw [e1, e2] at h
    exact Nat.eq_of_mul_eq_mul_left (Nat.mul_pos g0 k0) h
  have hy : d' * a' = b' * c' := by rw [Nat.mul_comm d', hx, Nat.mul_comm]
  refine ⟨Nat.dvd_antisymm (dvd_of_cross hx c1) (dvd_of_cross hx.symm c2), Nat.dvd_antisymm (dvd_of_cross hy.symm c1.symm) (dvd_of_cross hy c2.symm)⟩
