def lt {α β : Type} (v : α) (k : α → Option β) : Option β := k v
theorem lt_use {α β : Type} {v y : α} {k : α → Option β} {o : Option β} (e : y = v) (h : lt v k = o) : k y = o := by subst e; exact h
theorem bb_or {α : Type} {x : Int32} {k : Option α} {o : α} (h : bb x k = some o) : (x = 0 ∨ x = 1) ∧ k = some o := by
  by_cases hc : x = 0 ∨ x = 1
  · rw [bb, if_pos hc] at h; exact ⟨hc, h⟩
  · rw [bb, if_neg hc] at h; cases h
theorem bb_nar {x : Int32} (h : x = 0 ∨ x = 1) : narrow .boolean (.int x) = .int x := by
  rcases h with rfl | rfl
  · rfl
  · rfl
theorem bb_fit {x : Int32} (h : x = 0 ∨ x = 1) : fits .boolean (.int x) = true := by
  rcases h with rfl | rfl
  · rfl
  · rfl
