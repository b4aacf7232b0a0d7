/-! the claim: class and reference hold the same state behind every call -/
theorem al_z (i : Nat) : al (fun _ _ => 0) i = false := by simp [al]
theorem OKA_z : OKA (fun _ _ => 0) := ⟨Nat.zero_le 8, fun i h => (by rw [al_z] at h; cases h), fun i j h => (by rw [al_z] at h; cases h)⟩
theorem RR_0 : RR zS zS zS zS zS := by
  refine ⟨⟨fun _ _ => 0, OKA_z, Nat.zero_le 99, ⟨rfl, rfl, fun i hi => absurd hi (Nat.not_lt_zero i)⟩, ⟨rfl, rfl, fun i hi => absurd hi (Nat.not_lt_zero i)⟩, fun i hi => absurd hi (Nat.not_lt_zero i)⟩, ⟨0, Nat.zero_le 8, rfl, rfl, fun i hi => absurd hi (Nat.not_lt_zero i)⟩, ⟨0, Nat.zero_le 80, rfl, rfl, fun i hi => absurd hi (Nat.not_lt_zero i)⟩, fun _ _ _ => rfl, Or.inl ⟨rfl, rfl⟩⟩
set_option maxHeartbeats 4000000 in
theorem whole_start {p : Program} {e : Env} {s : State} {m : MethodId} {below : List Frame} {meth : Method} {c : Code} (l : Launch) (hflags : l.flags = flags0) {b L : Nat} {xs : Nat → Int32} (hL : L ≤ 2560) (C0 : lw_At p s m meth c b L xs) : W p l e room_1 s m #[Value.ref b] below meth c s.heap [] 0 0 (lw_Z below #[Value.ref b] s) (entryFrame m ([Value.ref b] : List Value).toArray 4) := by
  obtain ⟨fu, hfu⟩ : ∃ fu : Nat, 2 ^ 64 ≤ fu := ⟨2 ^ 64, Nat.le_refl _⟩
  have hk1 : 1000 ≤ fu := by omega
  refine law_start hL (fun _ SV SN _ SK SL _ SM => RR SV SN SK SL SM) fu RR_0 (fun _ _ _ _ _ _ _ _ _ h => h) ?_ ?_ ?_ ?_ ?_ ?_ ?_ ?_ ?_ ?_ ?_ ?_ ?_ ?_ ?_ ?_ ?_ ?_ ?_ ?_ ?_ ?_ ?_ ?_ ?_ l C0
  · intro k hk SV SN SR SK SL SO SM hR a1
    have hR : RR SV SN SK SL SM := hR
    obtain ⟨o1, o2, h1, h2, h3, h4⟩ := T_letter hR fu a1
    exact ⟨o1, o2, h1, h2, h4⟩
  · intro k hk SV SN SR SK SL SO SM hR 
    have hR : RR SV SN SK SL SM := hR
    obtain ⟨o1, o2, h1, h2, h3, h4⟩ := T_house hR SR fu hk1
    exact ⟨o1, o2, h1, h2, h4⟩
  · intro k hk SV SN SR SK SL SO SM hR a1 a2 a3
    have hR : RR SV SN SK SL SM := hR
    obtain ⟨o1, o2, h1, h2, h3, h4⟩ := T_enter hR fu hk1 a1 a2 a3
    exact ⟨o1, o2, h1, h2, h4⟩
  · intro k hk SV SN SR SK SL SO SM hR a1 a2
    have hR : RR SV SN SK SL SM := hR
    obtain ⟨o1, o2, h1, h2, h3, h4⟩ := T_lodger hR fu hk1 a1 a2
    exact ⟨o1, o2, h1, h2, h4⟩
  · intro k hk SV SN SR SK SL SO SM hR a1 a2
    have hR : RR SV SN SK SL SM := hR
    obtain ⟨o1, o2, h1, h2, h3, h4⟩ := T_wish hR fu hk1 a1 a2
    exact ⟨o1, o2, h1, h2, h4⟩
  · intro k hk SV SN SR SK SL SO SM hR a1
    have hR : RR SV SN SK SL SM := hR
    obtain ⟨o1, o2, h1, h2, h3, h4⟩ := T_year hR fu hk1 a1
    exact ⟨o1, o2, h1, h2, h4⟩
  · intro k hk SV SN SR SK SL SO SM hR a1
    have hR : RR SV SN SK SL SM := hR
    obtain ⟨o1, o2, h1, h2, h3, h4⟩ := T_on hR fu hk1 a1
    exact ⟨o1, o2, h1, h2, h4⟩
  · intro k hk SV SN SR SK SL SO SM hR a1 a2 a3 a4
    have hR : RR SV SN SK SL SM := hR
    obtain ⟨o1, o2, h1, h2, -, h4⟩ := T_likely0 (SO := SO) hR fu hfu a1 a2 a3 a4
    exact ⟨o1, o2, h1, h2, h4⟩
  · intro k hk SV SN SR SK SL SO SM hR 
    have hR : RR SV SN SK SL SM := hR
    obtain ⟨o, h1, h2⟩ := T_mean hR fu hk1 
    exact ⟨o, o, h1, h2, hR⟩
  · intro k hk SV SN SR SK SL SO SM hR a1 a2 a3
    have hR : RR SV SN SK SL SM := hR
    obtain ⟨o1, o2, h1, h2, h3, h4⟩ := T_deaths hR fu hk1 a1 a2 a3
    exact ⟨o1, o2, h1, h2, h4⟩
  · intro k hk SV SN SR SK SL SO SM hR 
    have hR : RR SV SN SK SL SM := hR
    obtain ⟨o, h1, h2⟩ := T_stuck hR fu hk1 
    exact ⟨o, o, h1, h2, hR⟩
  · intro k hk SV SN SR SK SL SO SM hR a1
    have hR : RR SV SN SK SL SM := hR
    obtain ⟨o1, o2, h1, h2, h3, h4⟩ := T_safe hR fu hk1 a1
    exact ⟨o1, o2, h1, h2, h4⟩
  · intro k hk SV SN SR SK SL SO SM hR a1
    have hR : RR SV SN SK SL SM := hR
    obtain ⟨o1, o2, h1, h2, h3, h4⟩ := T_carried hR fu hk1 a1
    exact ⟨o1, o2, h1, h2, h4⟩
  · intro k hk SV SN SR SK SL SO SM hR 
    have hR : RR SV SN SK SL SM := hR
    obtain ⟨o, h1, h2⟩ := T_least hR fu hk1 
    exact ⟨o, o, h1, h2, hR⟩
  · intro k hk SV SN SR SK SL SO SM hR 
    have hR : RR SV SN SK SL SM := hR
    obtain ⟨o, h1, h2⟩ := T_rings hR fu hk1 
    exact ⟨o, o, h1, h2, hR⟩
  · intro k hk SV SN SR SK SL SO SM hR 
    have hR : RR SV SN SK SL SM := hR
    obtain ⟨o1, o2, h1, h2, h3, h4⟩ := T_changing hR fu hk1 
    exact ⟨o1, o2, h1, h2, h4⟩
  · intro k hk SV SN SR SK SL SO SM hR 
    have hR : RR SV SN SK SL SM := hR
    obtain ⟨o, h1, h2⟩ := T_free hR fu hk1 
    exact ⟨o, o, h1, h2, hR⟩
  · intro k hk SV SN SR SK SL SO SM hR a1 a2
    have hR : RR SV SN SK SL SM := hR
    obtain ⟨o1, o2, h1, h2, h4⟩ := T_ages hR fu hk1 a1 a2
    exact ⟨o1, o2, h1, h2, h4⟩
  · intro k hk SV SN SR SK SL SO SM hR a1
    have hR : RR SV SN SK SL SM := hR
    obtain ⟨o1, o2, h1, h2, h3, h4⟩ := T_row hR fu a1
    exact ⟨o1, o2, h1, h2, h4⟩
  · intro k hk SV SN SR SK SL SO SM hR a1
    have hR : RR SV SN SK SL SM := hR
    obtain ⟨o1, o2, h1, h2, h3, h4⟩ := T_fitting hR fu hk1 a1
    exact ⟨o1, o2, h1, h2, h4⟩
  · intro k hk SV SN SR SK SL SO SM hR 
    have hR : RR SV SN SK SL SM := hR
    obtain ⟨o1, o2, h1, h2, h3, h4⟩ := T_judge hR fu hk1 
    exact ⟨o1, o2, h1, h2, h4⟩
  · intro k hk SV SN SR SK SL SO SM hR a1 a2
    have hR : RR SV SN SK SL SM := hR
    obtain ⟨o1, o2, h1, h2, h3, h4⟩ := T_lots hR fu hk1 a1 a2
    exact ⟨o1, o2, h1, h2, h4⟩
  · intro k hk SV SN SR SK SL SO SM hR 
    have hR : RR SV SN SK SL SM := hR
    obtain ⟨o1, o2, h1, h2, h3, h4⟩ := T_image hR fu hk1 
    exact ⟨o1, o2, h1, h2, h4⟩
  · intro k hk SV SN SR SK SL SO SM hR 
    have hR : RR SV SN SK SL SM := hR
    obtain ⟨o1, o2, h1, h2, h3, h4⟩ := T_back hR fu hk1 
    exact ⟨o1, o2, h1, h2, h4⟩
  · intro k hk SV SN SR SK SL SO SM hR a1
    have hR : RR SV SN SK SL SM := hR
    obtain ⟨o, h1, h2⟩ := T_count hR fu hk1 a1
    exact ⟨o, o, h1, h2, rfl, hR⟩
