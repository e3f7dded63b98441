/-! SHAPES THAT ARE TREES -/
theorem pv_sum_congr {z z' : Nat → Nat} {c : Nat} (h : ∀ j, j < c → z j = z' j) : pv_sum z c = pv_sum z' c := by
  induction c with
  | zero => rfl
  | succ c ih => simp only [pv_sum]; rw [ih (fun j hj => h j (by omega)), h c (by omega)]
theorem pv_sum_up_le {z : Nat → Nat} {k x c : Nat} (h : c ≤ k) : pv_sum (va_up z k x) c = pv_sum z c := pv_sum_congr (fun j hj => va_up_ne _ _ (by omega))
theorem pv_sum_up {z : Nat → Nat} {k x c : Nat} (h : k < c) : pv_sum (va_up z k x) c + z k = pv_sum z c + x := by
  induction c with
  | zero => omega
  | succ c ih =>
    simp only [pv_sum]
    by_cases hk : k = c
    · subst hk
      rw [va_up_self, pv_sum_up_le (Nat.le_refl _)]; omega
    · rw [va_up_ne _ _ (show c ≠ k by omega)]
      have := ih (by omega)
      omega
theorem pv_sum_zi_le {z : Nat → Nat} {i x c : Nat} (h : c ≤ i) : pv_sum (pv_zi z i x) c = pv_sum z c := pv_sum_congr (fun j hj => by unfold pv_zi; rw [if_pos (by omega)])
theorem pv_sum_zi {z : Nat → Nat} {i x c : Nat} (h : i ≤ c) : pv_sum (pv_zi z i x) (c + 1) = pv_sum z c + x := by
  induction c with
  | zero =>
    obtain rfl : i = 0 := by omega
    simp [pv_sum, pv_zi]
  | succ c ih =>
    rw [show pv_sum (pv_zi z i x) (c + 1 + 1) = pv_sum (pv_zi z i x) (c + 1) + pv_zi z i x (c + 1) from rfl]
    by_cases hi : i = c + 1
    · subst hi
      rw [pv_sum_zi_le (Nat.le_refl _)]
      unfold pv_zi
      rw [if_neg (by omega), if_pos rfl]
    · rw [ih (by omega)]
      unfold pv_zi
      rw [if_neg (by omega), if_neg (by omega)]
      simp only [pv_sum, Nat.add_sub_cancel]
      omega
theorem pv_sum_zd_le {z : Nat → Nat} {i c : Nat} (h : c ≤ i) : pv_sum (pv_zd z i) c = pv_sum z c := pv_sum_congr (fun j hj => by unfold pv_zd; rw [if_pos (by omega)])
theorem pv_sum_zd {z : Nat → Nat} {i c : Nat} (h : i ≤ c) : pv_sum (pv_zd z i) c + z i = pv_sum z (c + 1) := by
  induction c with
  | zero =>
    obtain rfl : i = 0 := by omega
    simp [pv_sum]
  | succ c ih =>
    by_cases hi : i = c + 1
    · subst hi
      rw [pv_sum_zd_le (Nat.le_refl _)]; rfl
    · have := ih (by omega)
      simp only [pv_sum] at this ⊢
      unfold pv_zd
      rw [if_neg (by omega)]
      unfold pv_zd at this
      omega
theorem pv_hoF_eq {z : Nat → Nat} : ∀ (q k r k' : Nat), k ≤ k' → k' ≤ k + q → pv_sum z k' ≤ r + pv_sum z k → r + pv_sum z k < pv_sum z (k' + 1) → pv_hoF z q k r = k' := by
  intro q
  induction q with
  | zero => intro k r k' h1 h2 _ _; simp only [pv_hoF]; omega
  | succ q ih =>
    intro k r k' h1 h2 h3 h4
    simp only [pv_hoF]
    by_cases hk : k' = k
    · subst hk
      simp only [pv_sum] at h4
      rw [if_pos (by omega)]
    · have hm := pv_sum_mono z (k + 1) (k' - (k + 1))
      rw [show k + 1 + (k' - (k + 1)) = k' by omega] at hm
      simp only [pv_sum] at hm
      rw [if_neg (by omega)]
      refine ih (k + 1) (r - z k) k' (by omega) (by omega) ?_ ?_ <;> simp only [pv_sum] at h4 ⊢ <;> omega
theorem pv_hoF_ex {z : Nat → Nat} : ∀ (q k r : Nat), r + pv_sum z k < pv_sum z (k + q + 1) → pv_sum z (pv_hoF z q k r) ≤ r + pv_sum z k ∧ r + pv_sum z k < pv_sum z (pv_hoF z q k r + 1) := by
  intro q
  induction q with
  | zero => intro k r h; simp only [pv_hoF]; exact ⟨by omega, h⟩
  | succ q ih =>
    intro k r h
    simp only [pv_hoF]
    by_cases hr : r < z k
    · rw [if_pos hr]; exact ⟨by omega, by simp only [pv_sum]; omega⟩
    · rw [if_neg hr]
      have := ih (k + 1) (r - z k) (by rw [show k + 1 + q + 1 = k + (q + 1) + 1 by omega]; simp only [pv_sum] at h ⊢; omega)
      simp only [pv_sum] at this ⊢
      omega
/-- the parent of (l, k) -/
theorem pv_hd_ex {S : pv_Sh} {l k : Nat} (hC : 0 < S.2.1 l) (hk : k < pv_sum (S.2.2 l) (S.2.1 l)) : pv_hd S l k < S.2.1 l ∧ pv_sum (S.2.2 l) (pv_hd S l k) ≤ k ∧ k < pv_sum (S.2.2 l) (pv_hd S l k) + S.2.2 l (pv_hd S l k) := by
  have h := pv_hoF_ex (z := S.2.2 l) (S.2.1 l - 1) 0 k (by rw [show 0 + (S.2.1 l - 1) + 1 = S.2.1 l by omega]; simpa [pv_sum] using hk)
  refine ⟨pv_hd_lt hC, ?_, ?_⟩
  · simpa [pv_hd, pv_sum] using h.1
  · simpa [pv_hd, pv_sum] using h.2
theorem pv_hd_eq {S : pv_Sh} {l k k' : Nat} (hk' : k' < S.2.1 l) (h1 : pv_sum (S.2.2 l) k' ≤ k) (h2 : k < pv_sum (S.2.2 l) k' + S.2.2 l k') : pv_hd S l k = k' :=
  pv_hoF_eq (S.2.1 l - 1) 0 k k' (by omega) (by omega) (by simpa [pv_sum] using h1) (by simpa [pv_sum] using h2)
/-- a tree's shape with c entries; node (x, y) alone may have one too many -/
def pv_wfx (F : Nat) (S : pv_Sh) (c x y : Nat) : Prop := 3 ≤ F ∧ F ≤ 5 ∧ 0 < S.1 ∧ S.2.1 (S.1 - 1) = 1 ∧ pv_sum (S.2.2 0) (S.2.1 0) = c ∧ (∀ l, l + 1 < S.1 → pv_sum (S.2.2 (l + 1)) (S.2.1 (l + 1)) = S.2.1 l) ∧ (∀ l k, l + 1 < S.1 → k < S.2.1 l → (F + 1) / 2 ≤ S.2.2 l k) ∧ (∀ l k, l < S.1 → k < S.2.1 l → S.2.2 l k ≤ F ∨ (l = x ∧ k = y ∧ S.2.2 l k ≤ F + 1)) ∧ (1 < S.1 → 2 ≤ S.2.2 (S.1 - 1) 0)
def pv_wf (F : Nat) (S : pv_Sh) (c : Nat) : Prop := 3 ≤ F ∧ F ≤ 5 ∧ 0 < S.1 ∧ S.2.1 (S.1 - 1) = 1 ∧ pv_sum (S.2.2 0) (S.2.1 0) = c ∧ (∀ l, l + 1 < S.1 → pv_sum (S.2.2 (l + 1)) (S.2.1 (l + 1)) = S.2.1 l) ∧ (∀ l k, l + 1 < S.1 → k < S.2.1 l → (F + 1) / 2 ≤ S.2.2 l k) ∧ (∀ l k, l < S.1 → k < S.2.1 l → S.2.2 l k ≤ F) ∧ (1 < S.1 → 2 ≤ S.2.2 (S.1 - 1) 0)
theorem pv_wf.x {F : Nat} {S : pv_Sh} {c : Nat} (h : pv_wf F S c) (x y : Nat) : pv_wfx F S c x y := ⟨h.1, h.2.1, h.2.2.1, h.2.2.2.1, h.2.2.2.2.1, h.2.2.2.2.2.1, h.2.2.2.2.2.2.1, fun l k a b => Or.inl (h.2.2.2.2.2.2.2.1 l k a b), h.2.2.2.2.2.2.2.2⟩
theorem pv_wfx.wf {F : Nat} {S : pv_Sh} {c x y : Nat} (h : pv_wfx F S c x y) (hxy : S.2.2 x y ≤ F) : pv_wf F S c := ⟨h.1, h.2.1, h.2.2.1, h.2.2.2.1, h.2.2.2.2.1, h.2.2.2.2.2.1, h.2.2.2.2.2.2.1, fun l k a b => by
  rcases h.2.2.2.2.2.2.2.1 l k a b with q | ⟨rfl, rfl, -⟩
  · exact q
  · exact hxy, h.2.2.2.2.2.2.2.2⟩
/-- how many nodes a level can have -/
theorem pv_sum_ge {z : Nat → Nat} {c b : Nat} (h : ∀ k, k < c → b ≤ z k) : c * b ≤ pv_sum z c := by
  induction c with
  | zero => simp
  | succ c ih =>
    have := ih (fun k hk => h k (by omega))
    have := h c (by omega)
    simp only [pv_sum]
    rw [Nat.succ_mul]; omega
theorem pv_wfx.cnt {F : Nat} {S : pv_Sh} {c x y : Nat} (h : pv_wfx F S c x y) (hc : c ≤ 61) : S.1 ≤ 5 ∧ (∀ l, l < S.1 → 0 < S.2.1 l ∧ S.2.1 l ≤ 30) := by
  obtain ⟨h1, h2, h3, h4, h5, h6, h7, h8, h9⟩ := h
  have two : ∀ l k, l + 1 < S.1 → k < S.2.1 l → 2 ≤ S.2.2 l k := fun l k a b => by have := h7 l k a b; omega
  have s0 : 1 < S.1 → S.2.1 0 * 2 ≤ c := fun hh => by rw [← h5]; exact pv_sum_ge (fun k hk => two 0 k (by omega) hk)
  have s1 : ∀ l, l + 2 < S.1 → S.2.1 (l + 1) * 2 ≤ S.2.1 l := fun l hl => by rw [← h6 l (by omega)]; exact pv_sum_ge (fun k hk => two (l + 1) k (by omega) hk)
  have stop : ∀ l, l + 2 = S.1 → 2 ≤ S.2.1 l := fun l hl => by
    rw [← h6 l (by omega)]
    have e : S.2.1 (l + 1) = 1 := by have q := h4; rwa [show S.1 - 1 = l + 1 by omega] at q
    rw [e]
    have := h9 (by omega)
    rw [show S.1 - 1 = l + 1 by omega] at this
    simp only [pv_sum]; omega
  have le30 : ∀ l, l + 1 < S.1 → S.2.1 l ≤ 30 := by
    intro l
    induction l with
    | zero => intro hl; have := s0 (by omega); omega
    | succ l ih => intro hl; have := s1 l (by omega); have := ih (by omega); omega
  have hh5 : S.1 ≤ 5 := by
    rcases Nat.lt_or_ge 5 S.1 with hlt | hle
    · exfalso
      -- from the top downwards
      obtain ⟨d, hd⟩ : ∃ d, S.1 = d + 6 := ⟨S.1 - 6, by omega⟩
      have a4 := stop (d + 4) (by omega)
      have a3 : S.2.1 (d + 4) * 2 ≤ S.2.1 (d + 3) := s1 (d + 3) (by omega)
      have a2 : S.2.1 (d + 3) * 2 ≤ S.2.1 (d + 2) := s1 (d + 2) (by omega)
      have a1 : S.2.1 (d + 2) * 2 ≤ S.2.1 (d + 1) := s1 (d + 1) (by omega)
      have a0 := s1 d (by omega)
      have := le30 d (by omega)
      omega
    · exact hle
  refine ⟨hh5, fun l hl => ?_⟩
  by_cases hlt : l + 1 < S.1
  · refine ⟨?_, le30 l hlt⟩
    have pos : ∀ d, ∀ l, l + 2 + d = S.1 → 0 < S.2.1 l := by
      intro d
      induction d with
      | zero => intro l hl; have := stop l (by omega); omega
      | succ d ih =>
        intro l hl
        have := ih (l + 1) (by omega)
        have := s1 l (by omega)
        omega
    exact pos (S.1 - 2 - l) l (by omega)
  · rw [show l = S.1 - 1 by omega, h4]; omega
theorem pv_wfx.ok {F : Nat} {S : pv_Sh} {c x y : Nat} (h : pv_wfx F S c x y) (hc : c ≤ 61) : pv_ok S c := by
  obtain ⟨q1, q2⟩ := h.cnt hc
  obtain ⟨h1, h2, h3, h4, h5, h6, h7, h8, h9⟩ := h
  refine ⟨h3, by omega, hc, h5, h6, fun l hl k hk => by have := h7 l k hl hk; omega, fun l hl k hk => ?_⟩
  rcases h8 l k hl hk with q | ⟨-, -, q⟩ <;> omega
theorem pv_wfx.ne {F : Nat} {S : pv_Sh} {c x y : Nat} (h : pv_wfx F S c x y) : ∀ l, 0 < l → l < S.1 → ∀ k, k < S.2.1 l → 0 < S.2.2 l k := by
  obtain ⟨h1, h2, h3, h4, h5, h6, h7, h8, h9⟩ := h
  intro l hl0 hl k hk
  by_cases hlt : l + 1 < S.1
  · have := h7 l k hlt hk; omega
  · rw [show l = S.1 - 1 by omega, h4] at hk
    obtain rfl : k = 0 := by omega
    have := h9 (by omega)
    rw [show l = S.1 - 1 by omega]; omega
/-- one split, the parent grown: a tree again but for the parent -/
theorem pv_wfx.split {F : Nat} {S : pv_Sh} {c l k : Nat} (h : pv_wfx F S c l k) (hl : l + 1 < S.1) (hk : k < S.2.1 l) (hz : ¬ S.2.2 l k ≤ F) : pv_wfx F (pv_set (pv_sp1 F S l k) (l + 1) (pv_hd S (l + 1) k) (S.2.2 (l + 1) (pv_hd S (l + 1) k) + 1)) c (l + 1) (pv_hd S (l + 1) k) := by
  obtain ⟨h1, h2, h3, h4, h5, h6, h7, h8, h9⟩ := h
  have hzk : S.2.2 l k = F + 1 := by
    rcases h8 l k (by omega) hk with q | ⟨-, -, q⟩ <;> omega
  have hC1 : 0 < S.2.1 (l + 1) := by
    rcases Nat.eq_zero_or_pos (S.2.1 (l + 1)) with q | q
    · have := h6 l hl; rw [q] at this; simp only [pv_sum] at this; omega
    · exact q
  obtain ⟨p1, p2, p3⟩ := pv_hd_ex (S := S) (l := l + 1) (k := k) hC1 (by rw [h6 l hl]; exact hk)
  generalize pv_hd S (l + 1) k = up at p1 p2 p3 ⊢
  have hne : l + 1 ≠ l := by omega
  have ez : ∀ l', l' ≠ l → l' ≠ l + 1 → (pv_set (pv_sp1 F S l k) (l + 1) up (S.2.2 (l + 1) up + 1)).2.2 l' = S.2.2 l' := fun l' a b => by simp only [pv_set, pv_sp1, va_up_ne _ _ a, va_up_ne _ _ b]
  have ez0 : (pv_set (pv_sp1 F S l k) (l + 1) up (S.2.2 (l + 1) up + 1)).2.2 l = pv_zi (va_up (S.2.2 l) k ((F + 2) / 2)) (k + 1) (F + 1 - (F + 2) / 2) := by simp only [pv_set, pv_sp1, va_up_ne _ _ (show l ≠ l + 1 by omega), va_up_self]
  have ez1 : (pv_set (pv_sp1 F S l k) (l + 1) up (S.2.2 (l + 1) up + 1)).2.2 (l + 1) = va_up (S.2.2 (l + 1)) up (S.2.2 (l + 1) up + 1) := by simp only [pv_set, pv_sp1, va_up_self, va_up_ne _ _ hne]
  have ec : ∀ l', l' ≠ l → (pv_set (pv_sp1 F S l k) (l + 1) up (S.2.2 (l + 1) up + 1)).2.1 l' = S.2.1 l' := fun l' a => by simp only [pv_set, pv_sp1, va_up_ne _ _ a]
  have ec0 : (pv_set (pv_sp1 F S l k) (l + 1) up (S.2.2 (l + 1) up + 1)).2.1 l = S.2.1 l + 1 := by simp only [pv_set, pv_sp1, va_up_self]
  have e1 : (pv_set (pv_sp1 F S l k) (l + 1) up (S.2.2 (l + 1) up + 1)).1 = S.1 := rfl
  have hsum : pv_sum (pv_zi (va_up (S.2.2 l) k ((F + 2) / 2)) (k + 1) (F + 1 - (F + 2) / 2)) (S.2.1 l + 1) = pv_sum (S.2.2 l) (S.2.1 l) := by
    rw [pv_sum_zi (by omega)]
    have := pv_sum_up (z := S.2.2 l) (k := k) (x := (F + 2) / 2) (c := S.2.1 l) hk
    omega
  generalize pv_set (pv_sp1 F S l k) (l + 1) up (S.2.2 (l + 1) up + 1) = T at ez ez0 ez1 ec ec0 e1 ⊢
  have zi : ∀ j, pv_zi (va_up (S.2.2 l) k ((F + 2) / 2)) (k + 1) (F + 1 - (F + 2) / 2) j = (if j = k then (F + 2) / 2 else if j = k + 1 then F + 1 - (F + 2) / 2 else if j < k then S.2.2 l j else S.2.2 l (j - 1)) := by
    intro j
    unfold pv_zi
    by_cases a : j < k + 1
    · rw [if_pos a]
      by_cases b : j = k
      · subst b; rw [va_up_self, if_pos rfl]
      · rw [va_up_ne _ _ b, if_neg b, if_neg (by omega), if_pos (by omega)]
    · rw [if_neg a, if_neg (by omega : ¬ j = k)]
      by_cases b : j = k + 1
      · rw [if_pos b, if_pos b]
      · rw [if_neg b, if_neg b, if_neg (by omega), va_up_ne _ _ (by omega)]
  refine ⟨h1, h2, by rw [e1]; exact h3, ?_, ?_, ?_, ?_, ?_, ?_⟩
  · rw [e1, ec _ (by omega)]; exact h4
  · by_cases l0 : l = 0
    · subst l0; rw [ez0, ec0, hsum]; exact h5
    · rw [ez 0 (by omega) (by omega), ec 0 (by omega)]; exact h5
  · intro l' hl'
    rw [e1] at hl'
    by_cases a : l' = l
    · subst a
      rw [ez1, ec _ (by omega), ec0]
      have := pv_sum_up (z := S.2.2 (l' + 1)) (k := up) (x := S.2.2 (l' + 1) up + 1) (c := S.2.1 (l' + 1)) p1
      have := h6 l' hl'
      omega
    · rw [ec l' a]
      by_cases b : l' + 1 = l
      · subst b; rw [ez0, ec0, hsum]; exact h6 l' hl'
      · rw [ez (l' + 1) b (by omega), ec (l' + 1) b]; exact h6 l' hl'
  · intro l' k' hl' hk'
    rw [e1] at hl'
    by_cases a : l' = l
    · subst a
      rw [ec0] at hk'
      rw [ez0, zi]
      split
      · omega
      · split
        · omega
        · split
          · exact h7 l' k' hl' (by omega)
          · exact h7 l' (k' - 1) hl' (by omega)
    · rw [ec l' a] at hk'
      by_cases b : l' = l + 1
      · subst b
        rw [ez1]
        by_cases d : k' = up
        · subst d; rw [va_up_self]; have := h7 (l + 1) k' hl' hk'; omega
        · rw [va_up_ne _ _ d]; exact h7 (l + 1) k' hl' hk'
      · rw [ez l' a b]; exact h7 l' k' hl' hk'
  · intro l' k' hl' hk'
    rw [e1] at hl'
    by_cases a : l' = l
    · subst a
      rw [ec0] at hk'
      left
      rw [ez0, zi]
      split
      · omega
      · split
        · omega
        · split
          · rcases h8 l' k' hl' (by omega) with q | ⟨-, q, -⟩ <;> omega
          · rcases h8 l' (k' - 1) hl' (by omega) with q | ⟨-, q, -⟩ <;> omega
    · rw [ec l' a] at hk'
      by_cases b : l' = l + 1
      · subst b
        rw [ez1]
        have hq := h8 (l + 1) k' hl' hk'
        by_cases d : k' = up
        · subst d; rw [va_up_self]; right; exact ⟨rfl, rfl, by omega⟩
        · rw [va_up_ne _ _ d]; left; omega
      · rw [ez l' a b]
        left
        rcases h8 l' k' hl' hk' with q | ⟨q, -, -⟩ <;> omega
  · intro hh
    rw [e1] at hh ⊢
    have := h9 hh
    by_cases b : S.1 - 1 = l + 1
    · rw [b, ez1]
      rw [b] at this
      by_cases d : (0 : Nat) = up
      · subst d; rw [va_up_self]; omega
      · rw [va_up_ne _ _ d]; exact this
    · rw [ez _ (by omega) b]; exact this
/-- the root is split, a new one comes above -/
theorem pv_wfx.grow {F : Nat} {S : pv_Sh} {c l k : Nat} (h : pv_wfx F S c l k) (hl : l + 1 = S.1) (hk : k < S.2.1 l) (hz : ¬ S.2.2 l k ≤ F) : pv_wf F (pv_grow (pv_sp1 F S l k)) c := by
  obtain ⟨h1, h2, h3, h4, h5, h6, h7, h8, h9⟩ := h
  have hzk : S.2.2 l k = F + 1 := by
    rcases h8 l k (by omega) hk with q | ⟨-, -, q⟩ <;> omega
  have hCl : S.2.1 l = 1 := by have q := h4; rwa [show S.1 - 1 = l by omega] at q
  obtain rfl : k = 0 := by omega
  have ez : ∀ l', l' ≠ l → l' ≠ l + 1 → (pv_grow (pv_sp1 F S l 0)).2.2 l' = S.2.2 l' := fun l' a b => by simp only [pv_grow, pv_sp1, va_up_ne _ _ a, va_up_ne _ _ (show l' ≠ S.1 by omega)]
  have ez0 : (pv_grow (pv_sp1 F S l 0)).2.2 l = pv_zi (va_up (S.2.2 l) 0 ((F + 2) / 2)) 1 (F + 1 - (F + 2) / 2) := by simp only [pv_grow, pv_sp1, va_up_ne _ _ (show l ≠ S.1 by omega), va_up_self]
  have ez1 : (pv_grow (pv_sp1 F S l 0)).2.2 (l + 1) 0 = 2 := by simp only [pv_grow, pv_sp1, hl, va_up_self]
  have ec : ∀ l', l' ≠ l → l' ≠ l + 1 → (pv_grow (pv_sp1 F S l 0)).2.1 l' = S.2.1 l' := fun l' a b => by simp only [pv_grow, pv_sp1, va_up_ne _ _ a, va_up_ne _ _ (show l' ≠ S.1 by omega)]
  have ec0 : (pv_grow (pv_sp1 F S l 0)).2.1 l = 2 := by simp only [pv_grow, pv_sp1, va_up_ne _ _ (show l ≠ S.1 by omega), va_up_self, hCl]
  have ec1 : (pv_grow (pv_sp1 F S l 0)).2.1 (l + 1) = 1 := by simp only [pv_grow, pv_sp1, hl, va_up_self]
  have e1 : (pv_grow (pv_sp1 F S l 0)).1 = l + 2 := by simp only [pv_grow, pv_sp1]; omega
  have z0 : pv_zi (va_up (S.2.2 l) 0 ((F + 2) / 2)) 1 (F + 1 - (F + 2) / 2) 0 = (F + 2) / 2 := by simp [pv_zi, va_up]
  have z1 : pv_zi (va_up (S.2.2 l) 0 ((F + 2) / 2)) 1 (F + 1 - (F + 2) / 2) 1 = F + 1 - (F + 2) / 2 := by simp [pv_zi]
  have hsum : pv_sum (pv_zi (va_up (S.2.2 l) 0 ((F + 2) / 2)) 1 (F + 1 - (F + 2) / 2)) 2 = pv_sum (S.2.2 l) 1 := by
    simp only [pv_sum, z0, z1]; omega
  generalize pv_grow (pv_sp1 F S l 0) = T at ez ez0 ez1 ec ec0 ec1 e1 ⊢
  refine ⟨h1, h2, by omega, ?_, ?_, ?_, ?_, ?_, ?_⟩
  · rw [e1]; exact ec1
  · by_cases l0 : l = 0
    · subst l0; rw [ez0, ec0, hsum, ← h5, hCl]
    · rw [ez 0 (by omega) (by omega), ec 0 (by omega) (by omega)]; exact h5
  · intro l' hl'
    rw [e1] at hl'
    by_cases a : l' = l
    · subst a; rw [ec1, ec0]; simp only [pv_sum]; omega
    · rw [ec l' a (by omega)]
      by_cases b : l' + 1 = l
      · subst b; rw [ez0, ec0, hsum]; have q := h6 l' (by omega); rw [hCl] at q; exact q
      · rw [ez (l' + 1) b (by omega), ec (l' + 1) b (by omega)]; exact h6 l' (by omega)
  · intro l' k' hl' hk'
    rw [e1] at hl'
    by_cases a : l' = l
    · subst a
      rw [ec0] at hk'
      rw [ez0]
      rcases (show k' = 0 ∨ k' = 1 by omega) with rfl | rfl
      · rw [z0]; omega
      · rw [z1]; omega
    · rw [ec l' a (by omega)] at hk'
      rw [ez l' a (by omega)]; exact h7 l' k' (by omega) hk'
  · intro l' k' hl' hk'
    rw [e1] at hl'
    by_cases a : l' = l
    · subst a
      rw [ec0] at hk'
      rw [ez0]
      rcases (show k' = 0 ∨ k' = 1 by omega) with rfl | rfl
      · rw [z0]; omega
      · rw [z1]; omega
    · by_cases b : l' = l + 1
      · subst b
        rw [ec1] at hk'
        obtain rfl : k' = 0 := by omega
        rw [ez1]; omega
      · rw [ec l' a b] at hk'
        rw [ez l' a b]
        rcases h8 l' k' (by omega) hk' with q | ⟨q, -, -⟩ <;> omega
  · intro _
    rw [show T.1 - 1 = l + 1 by omega, ez1]
    exact Nat.le_refl _
theorem pv_spl_wf {F : Nat} : ∀ (f : Nat) {S : pv_Sh} {c l k : Nat}, pv_wfx F S c l k → l < S.1 → k < S.2.1 l → S.1 - l ≤ f → pv_wf F (pv_spl F f S l k) c := by
  intro f
  induction f with
  | zero => intro S c l k h hl hk hf; omega
  | succ f ih =>
    intro S c l k h hl hk hf
    simp only [pv_spl]
    by_cases hz : S.2.2 l k ≤ F
    · rw [if_pos hz]; exact h.wf hz
    · rw [if_neg hz]
      by_cases hr : l + 1 = S.1
      · rw [if_pos hr]; exact h.grow hr hk hz
      · rw [if_neg hr]
        have h6 := h.2.2.2.2.2.1 l (by omega)
        have hC1 : 0 < S.2.1 (l + 1) := by
          rcases Nat.eq_zero_or_pos (S.2.1 (l + 1)) with q | q
          · rw [q] at h6; simp only [pv_sum] at h6; omega
          · exact q
        have p1 := pv_hd_lt (S := S) (l := l + 1) (k := k) hC1
        exact ih (h.split (by omega) hk hz) (by simp only [pv_set, pv_sp1]; omega) (by simp only [pv_set, pv_sp1, va_up_ne _ _ (show l + 1 ≠ l by omega)]; exact p1) (by simp only [pv_set, pv_sp1]; omega)
