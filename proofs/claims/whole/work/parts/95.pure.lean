/-! THE LAW -/
theorem pure_law : ∀ (L : Nat) (xs : Nat → Int32) (n : Nat), L ≤ 2561 → f_law L xs n = some 1 := by
  intro L xs n hL
  obtain ⟨m, k, fc, fm, e1, e2, h⟩ := jn_init n (sw_c0 L xs)
  unfold f_law
  refine bind_v rfl (bind_v e1 (bind_v rfl (bind_v e2 ?_)))
  exact lw_loop hL 514 0 (by omega) (by omega) (by omega) h
