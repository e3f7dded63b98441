/-! THE LAW'S LOOP -/
theorem jn.ob7 {x m0 n : Nat} {fc fm : Nat → Option sw_E} (h : jn x m0 n fc fm) : ∃ L, sw_ob 7 x (n, fc) = some L := by
  obtain ⟨F, S, c, I, Ar, Aj, f, T, L, rk, rv, rfl, ht, hw, -⟩ := h
  exact ⟨_, hw.ob⟩
theorem jn.ob8 {x m0 n : Nat} {fc fm : Nat → Option sw_E} (h : jn x m0 n fc fm) : ∃ L, ∀ n', sw_ob 8 m0 (n', fm) = some L := by
  obtain ⟨F, S, c, I, Ar, Aj, f, T, L, rk, rv, rfl, ht, hw, -⟩ := h
  exact ⟨_, fun n' => md_ob⟩
theorem ite_v {α : Type} {c : Prop} [Decidable c] {a b v : α} (h1 : c → a = v) (h2 : ¬ c → b = v) : (if c then a else b) = v := by
  by_cases q : c
  · rw [if_pos q]; exact h1 q
  · rw [if_neg q]; exact h2 q
theorem bind_v {α β : Type} {o : Option α} {k : α → Option β} {a : α} {v : Option β} (h : o = some a) (hk : k a = v) : o.bind k = v := by
  rw [h]; exact hk
theorem b2_v {α β γ : Type} {o : Option (α × β)} {k : α → β → Option γ} {r : α} {t : β} {v : Option γ} (h : o = some (r, t)) (hk : k r t = v) : sw_b2 o k = v := by
  rw [h]; exact hk
theorem lw_small {L : Nat} (h : L < 5) : nI L - 5 < 0 := by
  match L, h with
  | 0, _ => decide
  | 1, _ => decide
  | 2, _ => decide
  | 3, _ => decide
  | 4, _ => decide
theorem lw_step {L : Nat} {xs : Nat → Int32} {rec : Nat → Nat → Int32 → Nat → (Nat → Option sw_E) → (Nat → Option sw_E) → Option Int32} {p x m0 n : Nat} {fc fm : Nat → Option sw_E} (hp : p + 4 < L) (hL : L < 2 ^ 31) (h : jn x m0 n fc fm) (hr : ∀ n' fc' fm', jn x m0 n' fc' fm' → b_law_577 L xs rec x m0 (nI p) n' fc' fm' = some 1) (hlt : ¬ nI L - 5 < nI p) : B_law_28 L xs rec x m0 (nI p) n fc fm = some 1 := by
  have s0 : sw_sx L xs (nI p) = some (xs p) := by unfold sw_sx; rw [sw_ix_nI (by omega) hL, Option.bind_some]
  have s1 : sw_sx L xs (nI p + 1) = some (xs (p + 1)) := by unfold sw_sx; rw [nI_1, sw_ix_nI (by omega) hL, Option.bind_some]
  have s2 : sw_sx L xs (nI p + 2) = some (xs (p + 2)) := by unfold sw_sx; rw [show nI p + 2 = nI (p + 2) from nI_add p 2, sw_ix_nI (by omega) hL, Option.bind_some]
  have s3 : sw_sx L xs (nI p + 3) = some (xs (p + 3)) := by unfold sw_sx; rw [show nI p + 3 = nI (p + 3) from nI_add p 3, sw_ix_nI (by omega) hL, Option.bind_some]
  have s4 : sw_sx L xs (nI p + 4) = some (xs (p + 4)) := by unfold sw_sx; rw [show nI p + 4 = nI (p + 4) from nI_add p 4, sw_ix_nI (by omega) hL, Option.bind_some]
  obtain ⟨L7, o7⟩ := h.ob7
  obtain ⟨L8, o8⟩ := h.ob8
  have key : ∀ cn : Int32, cn = 0 ∨ cn = 1 → (xs (p + 3) = 0 ↔ cn = 0) → b_law_291 L xs rec x m0 (nI p) cn (xs (p + 2)) (xs (p + 1)) x n fc fm = some 1 := by
    intro cn hcn hiff
    obtain ⟨r, n', fc', fm', e1, e2, e3⟩ := jn_prove h (xs (p + 1)) (xs (p + 2)) hcn
    have h318 : b_law_318 L xs rec x m0 (nI p) cn (xs (p + 2)) (xs (p + 1)) m0 r n' fc' fm = some 1 := by
      unfold b_law_318
      exact bind_v (o8 _) (b2_v (r := r) e2 (ite_v (fun _ => hr _ _ _ e3) fun w => absurd rfl w))
    unfold b_law_291
    refine bind_v o7 (b2_v e1 (bind_v s1 (bind_v s2 (bind_v s3 (ite_v (fun q => ?_) fun q => ?_)))))
    · rw [hiff.mp q] at h318
      exact h318
    · have : cn = 1 := hcn.resolve_left fun w => q (hiff.mpr w)
      rw [this] at h318
      exact h318
  unfold B_law_28
  refine ite_v (fun w => absurd w hlt) fun _ => ?_
  refine bind_v s0 ?_
  refine ite_v (fun _ => ?_) fun _ => ?_
  · obtain ⟨r, n', fc', fm', e1, e2, e3⟩ := jn_put h (xs (p + 1)) (xs (p + 2))
    exact (bind_v s1 (bind_v s2 (bind_v o7 (b2_v e1 (bind_v s1 (bind_v s2 (bind_v (o8 _) (b2_v (r := r) e2 (ite_v (fun _ => hr _ _ _ e3) fun w => absurd rfl w)))))))))
  refine ite_v (fun _ => ?_) fun _ => ?_
  · obtain ⟨r, n', fc', fm', e1, e2, e3⟩ := jn_remove h (xs (p + 1))
    exact (bind_v s1 (bind_v o7 (b2_v e1 (bind_v s1 (bind_v (o8 _) (b2_v (r := r) e2 (ite_v (fun _ => hr _ _ _ e3) fun w => absurd rfl w)))))))
  refine ite_v (fun _ => ?_) fun _ => ?_
  · obtain ⟨r, n', fc', e1, e2, e3⟩ := jn_get h (xs (p + 1))
    exact (bind_v s1 (bind_v o7 (b2_v e1 (bind_v s1 (bind_v (o8 _) (bind_v e2 (ite_v (fun _ => hr _ _ _ e3) fun w => absurd rfl w)))))))
  refine ite_v (fun _ => ?_) fun _ => ?_
  · obtain ⟨r, e1, e2⟩ := jn_size h 
    exact (bind_v o7 (bind_v e1 (bind_v (o8 _) (bind_v e2 (ite_v (fun _ => hr _ _ _ h) fun w => absurd rfl w)))))
  refine ite_v (fun _ => ?_) fun _ => ?_
  · obtain ⟨r, e1, e2⟩ := jn_height h 
    exact (bind_v o7 (bind_v e1 (bind_v (o8 _) (bind_v e2 (ite_v (fun _ => hr _ _ _ h) fun w => absurd rfl w)))))
  refine ite_v (fun _ => ?_) fun _ => ?_
  · obtain ⟨r, e1, e2⟩ := jn_root h 
    exact (bind_v o7 (bind_v e1 (bind_v (o8 _) (bind_v e2 (ite_v (fun _ => hr _ _ _ h) fun w => absurd rfl w)))))
  refine ite_v (fun _ => ?_) fun _ => ?_
  · obtain ⟨r, e1, e2⟩ := jn_within h (xs (p + 1)) (xs (p + 2))
    exact (bind_v s1 (bind_v s2 (bind_v o7 (bind_v e1 (bind_v s1 (bind_v s2 (bind_v (o8 _) (bind_v e2 (ite_v (fun _ => hr _ _ _ h) fun w => absurd rfl w)))))))))
  refine ite_v (fun _ => ?_) fun _ => ?_
  · exact (bind_v s1 (bind_v s2 (bind_v s3 (ite_v (fun q => key 0 (Or.inl rfl) ⟨fun _ => rfl, fun _ => q⟩) fun q => key 1 (Or.inr rfl) ⟨fun w => absurd w q, fun w => absurd w (by decide)⟩))))
  refine ite_v (fun _ => ?_) fun _ => ?_
  · obtain ⟨r, e1, e2⟩ := jn_token h (xs (p + 1))
    exact (bind_v s1 (bind_v o7 (bind_v e1 (bind_v s1 (bind_v (o8 _) (bind_v e2 (ite_v (fun _ => hr _ _ _ h) fun w => absurd rfl w)))))))
  refine ite_v (fun _ => ?_) fun _ => ?_
  · obtain ⟨r, n', fc', fm', e1, e2, e3⟩ := jn_alter h (xs (p + 1)) (xs (p + 2))
    exact (bind_v s1 (bind_v s2 (bind_v o7 (b2_v e1 (bind_v s1 (bind_v s2 (bind_v (o8 _) (b2_v (r := r) e2 (ite_v (fun _ => hr _ _ _ e3) fun w => absurd rfl w)))))))))
  refine ite_v (fun _ => ?_) fun _ => ?_
  · obtain ⟨r, n', fc', fm', e1, e2, e3⟩ := jn_trim h (xs (p + 1))
    exact (bind_v s1 (bind_v o7 (b2_v e1 (bind_v s1 (bind_v (o8 _) (b2_v (r := r) e2 (ite_v (fun _ => hr _ _ _ e3) fun w => absurd rfl w)))))))
  refine ite_v (fun _ => ?_) fun _ => ?_
  · obtain ⟨r, n', fc', fm', e1, e2, e3⟩ := jn_check h (xs (p + 1)) (xs (p + 2)) (xs (p + 3))
    exact (bind_v s1 (bind_v s2 (bind_v s3 (bind_v o7 (b2_v e1 (bind_v s1 (bind_v s2 (bind_v s3 (bind_v (o8 _) (b2_v (r := r) e2 (ite_v (fun _ => hr _ _ _ e3) fun w => absurd rfl w)))))))))))
  refine ite_v (fun _ => ?_) fun _ => ?_
  · obtain ⟨r, n', fc', fm', e1, e2, e3⟩ := jn_count h (xs (p + 1)) (xs (p + 2)) (xs (p + 3))
    exact (bind_v s1 (bind_v s2 (bind_v s3 (bind_v o7 (b2_v e1 (bind_v s1 (bind_v s2 (bind_v s3 (bind_v (o8 _) (b2_v (r := r) e2 (ite_v (fun _ => hr _ _ _ e3) fun w => absurd rfl w)))))))))))
  refine ite_v (fun _ => ?_) fun _ => ?_
  · obtain ⟨r, e1, e2⟩ := jn_row h (xs (p + 1)) (xs (p + 2))
    exact (bind_v s1 (bind_v s2 (bind_v o7 (bind_v e1 (bind_v s1 (bind_v s2 (bind_v (o8 _) (bind_v e2 (ite_v (fun _ => hr _ _ _ h) fun w => absurd rfl w)))))))))
  refine ite_v (fun _ => ?_) fun _ => ?_
  · obtain ⟨r, e1, e2⟩ := jn_digest (x := x) (m0 := m0) (xs (p + 1)) (xs (p + 2)) (xs (p + 3)) (xs (p + 4)) (n, fc) (n, fm)
    exact (bind_v s1 (bind_v s2 (bind_v s3 (bind_v s4 (bind_v o7 (bind_v e1 (bind_v s1 (bind_v s2 (bind_v s3 (bind_v s4 (bind_v (o8 _) (bind_v e2 (ite_v (fun _ => hr _ _ _ h) fun w => absurd rfl w)))))))))))))
  exact hr _ _ _ h
theorem lw_loop {L : Nat} {xs : Nat → Int32} (hL : L ≤ 2561) : ∀ (fuel t : Nat) {x m0 n : Nat} {fc fm : Nat → Option sw_E}, 0 < fuel → L ≤ 5 * t + 5 * fuel → t ≤ 1000 → jn x m0 n fc fm → b_law_28 L xs fuel x m0 (nI (1 + 5 * t)) n fc fm = some 1 := by
  intro fuel
  induction fuel with
  | zero => intro t x m0 n fc fm h; omega
  | succ g ih =>
    intro t x m0 n fc fm _ hf ht h
    show B_law_28 L xs (b_law_28 L xs g) x m0 (nI (1 + 5 * t)) n fc fm = some 1
    by_cases q : L < 5 * t + 6
    · have hlt : nI L - 5 < nI (1 + 5 * t) := by
        by_cases q2 : L < 5
        · exact Int32.lt_of_lt_of_le (lw_small q2) (nI_pos' (by omega))
        · rw [show nI L - 5 = nI (L - 5) from pk_sub (b := 5) (by omega)]
          exact nI_lt (by omega) (by omega)
      unfold B_law_28
      exact if_pos hlt
    · refine lw_step (by omega) (by omega) h (fun n' fc' fm' h' => ?_) ?_
      · unfold b_law_577
        rw [show nI (1 + 5 * t) + 5 = nI (1 + 5 * (t + 1)) from by rw [show nI (1 + 5 * t) + 5 = nI (1 + 5 * t + 5) from nI_add _ 5, show 1 + 5 * t + 5 = 1 + 5 * (t + 1) by omega]]
        exact ih (t + 1) (by omega) (by omega) (by omega) h'
      · rw [show nI L - 5 = nI (L - 5) from pk_sub (b := 5) (by omega)]
        exact nI_nlt (by omega) (by omega)
