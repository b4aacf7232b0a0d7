set_option maxHeartbeats 4000000 in
theorem whole_start {p : Program} {e : Env} {s : State} {m : MethodId} {below : List Frame} {meth : Method} {c : Code} (l : Launch) (hflags : l.flags = flags0) {b L : Nat} {xs : Nat → Int32} (hL : L ≤ 5) (C0 : lw_At p s m meth c b L xs) : W p l e room_1 s m #[Value.ref b] below meth c s.heap [] 0 0 (lw_Z below #[Value.ref b] s) (entryFrame m ([Value.ref b] : List Value).toArray 4) := by
  refine law_start hL RXp 1000 (fun _ => ⟨rfl, rfl, rfl, rfl, rfl, rfl, rfl⟩) (fun k _ _ _ _ _ _ _ _ _ => RXp_n) ?_ ?_ ?_ ?_ ?_ ?_ ?_ ?_ ?_ ?_ ?_ ?_ ?_ ?_ ?_ ?_ ?_ ?_ ?_ ?_ ?_ ?_ ?_ ?_ ?_ l C0
  · intro k hk SV SN SR SK SL SO SM hR a1
    obtain ⟨rfl, rfl, rfl, rfl, rfl, rfl, rfl⟩ := hR (by omega)
    obtain ⟨o1, o2, h1, h2, h3⟩ := z_letter a1
    exact ⟨o1, o2, h1, h2, h3, RXp_n⟩
  · intro k hk SV SN SR SK SL SO SM hR
    obtain ⟨rfl, rfl, rfl, rfl, rfl, rfl, rfl⟩ := hR (by omega)
    obtain ⟨o1, o2, h1, h2, h3⟩ := z_house
    exact ⟨o1, o2, h1, h2, h3, RXp_n⟩
  · intro k hk SV SN SR SK SL SO SM hR a1 a2 a3
    obtain ⟨rfl, rfl, rfl, rfl, rfl, rfl, rfl⟩ := hR (by omega)
    obtain ⟨o1, o2, h1, h2, h3⟩ := z_enter a1 a2 a3
    exact ⟨o1, o2, h1, h2, h3, RXp_n⟩
  · intro k hk SV SN SR SK SL SO SM hR a1 a2
    obtain ⟨rfl, rfl, rfl, rfl, rfl, rfl, rfl⟩ := hR (by omega)
    obtain ⟨o1, o2, h1, h2, h3⟩ := z_lodger a1 a2
    exact ⟨o1, o2, h1, h2, h3, RXp_n⟩
  · intro k hk SV SN SR SK SL SO SM hR a1 a2
    obtain ⟨rfl, rfl, rfl, rfl, rfl, rfl, rfl⟩ := hR (by omega)
    obtain ⟨o1, o2, h1, h2, h3⟩ := z_wish a1 a2
    exact ⟨o1, o2, h1, h2, h3, RXp_n⟩
  · intro k hk SV SN SR SK SL SO SM hR a1
    obtain ⟨rfl, rfl, rfl, rfl, rfl, rfl, rfl⟩ := hR (by omega)
    obtain ⟨o1, o2, h1, h2, h3⟩ := z_year a1
    exact ⟨o1, o2, h1, h2, h3, RXp_n⟩
  · intro k hk SV SN SR SK SL SO SM hR a1
    obtain ⟨rfl, rfl, rfl, rfl, rfl, rfl, rfl⟩ := hR (by omega)
    obtain ⟨o1, o2, h1, h2, h3⟩ := z_on a1
    exact ⟨o1, o2, h1, h2, h3, RXp_n⟩
  · intro k hk SV SN SR SK SL SO SM hR a1 a2 a3 a4
    obtain ⟨rfl, rfl, rfl, rfl, rfl, rfl, rfl⟩ := hR (by omega)
    obtain ⟨o1, o2, h1, h2, h3⟩ := z_likely a1 a2 a3 a4
    exact ⟨o1, o2, h1, h2, h3, RXp_n⟩
  · intro k hk SV SN SR SK SL SO SM hR
    obtain ⟨rfl, rfl, rfl, rfl, rfl, rfl, rfl⟩ := hR (by omega)
    obtain ⟨o1, o2, h1, h2, h3⟩ := z_mean
    exact ⟨o1, o2, h1, h2, h3, RXp_n⟩
  · intro k hk SV SN SR SK SL SO SM hR a1 a2 a3
    obtain ⟨rfl, rfl, rfl, rfl, rfl, rfl, rfl⟩ := hR (by omega)
    obtain ⟨o1, o2, h1, h2, h3⟩ := z_deaths a1 a2 a3
    exact ⟨o1, o2, h1, h2, h3, RXp_n⟩
  · intro k hk SV SN SR SK SL SO SM hR
    obtain ⟨rfl, rfl, rfl, rfl, rfl, rfl, rfl⟩ := hR (by omega)
    obtain ⟨o1, o2, h1, h2, h3⟩ := z_stuck
    exact ⟨o1, o2, h1, h2, h3, RXp_n⟩
  · intro k hk SV SN SR SK SL SO SM hR a1
    obtain ⟨rfl, rfl, rfl, rfl, rfl, rfl, rfl⟩ := hR (by omega)
    obtain ⟨o1, o2, h1, h2, h3⟩ := z_safe a1
    exact ⟨o1, o2, h1, h2, h3, RXp_n⟩
  · intro k hk SV SN SR SK SL SO SM hR a1
    obtain ⟨rfl, rfl, rfl, rfl, rfl, rfl, rfl⟩ := hR (by omega)
    obtain ⟨o1, o2, h1, h2, h3⟩ := z_carried a1
    exact ⟨o1, o2, h1, h2, h3, RXp_n⟩
  · intro k hk SV SN SR SK SL SO SM hR
    obtain ⟨rfl, rfl, rfl, rfl, rfl, rfl, rfl⟩ := hR (by omega)
    obtain ⟨o1, o2, h1, h2, h3⟩ := z_leastCarried
    exact ⟨o1, o2, h1, h2, h3, RXp_n⟩
  · intro k hk SV SN SR SK SL SO SM hR
    obtain ⟨rfl, rfl, rfl, rfl, rfl, rfl, rfl⟩ := hR (by omega)
    obtain ⟨o1, o2, h1, h2, h3⟩ := z_rings
    exact ⟨o1, o2, h1, h2, h3, RXp_n⟩
  · intro k hk SV SN SR SK SL SO SM hR
    obtain ⟨rfl, rfl, rfl, rfl, rfl, rfl, rfl⟩ := hR (by omega)
    obtain ⟨o1, o2, h1, h2, h3⟩ := z_changing
    exact ⟨o1, o2, h1, h2, h3, RXp_n⟩
  · intro k hk SV SN SR SK SL SO SM hR
    obtain ⟨rfl, rfl, rfl, rfl, rfl, rfl, rfl⟩ := hR (by omega)
    obtain ⟨o1, o2, h1, h2, h3⟩ := z_free
    exact ⟨o1, o2, h1, h2, h3, RXp_n⟩
  · intro k hk SV SN SR SK SL SO SM hR a1 a2
    obtain ⟨rfl, rfl, rfl, rfl, rfl, rfl, rfl⟩ := hR (by omega)
    obtain ⟨o1, o2, h1, h2, h3⟩ := z_ages a1 a2
    exact ⟨o1, o2, h1, h2, h3, RXp_n⟩
  · intro k hk SV SN SR SK SL SO SM hR a1
    obtain ⟨rfl, rfl, rfl, rfl, rfl, rfl, rfl⟩ := hR (by omega)
    obtain ⟨o1, o2, h1, h2, h3⟩ := z_row a1
    exact ⟨o1, o2, h1, h2, h3, RXp_n⟩
  · intro k hk SV SN SR SK SL SO SM hR a1
    obtain ⟨rfl, rfl, rfl, rfl, rfl, rfl, rfl⟩ := hR (by omega)
    obtain ⟨o1, o2, h1, h2, h3⟩ := z_fitting a1
    exact ⟨o1, o2, h1, h2, h3, RXp_n⟩
  · intro k hk SV SN SR SK SL SO SM hR
    obtain ⟨rfl, rfl, rfl, rfl, rfl, rfl, rfl⟩ := hR (by omega)
    obtain ⟨o1, o2, h1, h2, h3⟩ := z_judge
    exact ⟨o1, o2, h1, h2, h3, RXp_n⟩
  · intro k hk SV SN SR SK SL SO SM hR a1 a2
    obtain ⟨rfl, rfl, rfl, rfl, rfl, rfl, rfl⟩ := hR (by omega)
    obtain ⟨o1, o2, h1, h2, h3⟩ := z_lots a1 a2
    exact ⟨o1, o2, h1, h2, h3, RXp_n⟩
  · intro k hk SV SN SR SK SL SO SM hR
    obtain ⟨rfl, rfl, rfl, rfl, rfl, rfl, rfl⟩ := hR (by omega)
    obtain ⟨o1, o2, h1, h2, h3⟩ := z_image
    exact ⟨o1, o2, h1, h2, h3, RXp_n⟩
  · intro k hk SV SN SR SK SL SO SM hR
    obtain ⟨rfl, rfl, rfl, rfl, rfl, rfl, rfl⟩ := hR (by omega)
    obtain ⟨o1, o2, h1, h2, h3⟩ := z_back
    exact ⟨o1, o2, h1, h2, h3, RXp_n⟩
  · intro k hk SV SN SR SK SL SO SM hR a1
    obtain ⟨rfl, rfl, rfl, rfl, rfl, rfl, rfl⟩ := hR (by omega)
    obtain ⟨o1, o2, h1, h2, h3⟩ := z_count a1
    exact ⟨o1, o2, h1, h2, h3, RXp_n⟩
