/-! SETTLING KEEPS TREES -/
/-- a tree's shape; node (x, y) alone may have one too few -/
def pv_wfy (F : Nat) (S : pv_Sh) (c x y : Nat) : Prop := 3 ≤ F ∧ F ≤ 5 ∧ 0 < S.1 ∧ S.2.1 (S.1 - 1) = 1 ∧ pv_sum (S.2.2 0) (S.2.1 0) = c ∧ (∀ l, l + 1 < S.1 → pv_sum (S.2.2 (l + 1)) (S.2.1 (l + 1)) = S.2.1 l) ∧ (∀ l k, l + 1 < S.1 → k < S.2.1 l → (F + 1) / 2 ≤ S.2.2 l k ∨ (l = x ∧ k = y ∧ (F + 1) / 2 ≤ S.2.2 l k + 1)) ∧ (∀ l k, l < S.1 → k < S.2.1 l → S.2.2 l k ≤ F) ∧ (1 < S.1 → 2 ≤ S.2.2 (S.1 - 1) 0 ∨ (S.1 - 1 = x ∧ 1 ≤ S.2.2 (S.1 - 1) 0))
theorem pv_wfy.C1 {F : Nat} {S : pv_Sh} {c x y : Nat} (h : pv_wfy F S c x y) {l k : Nat} (hl : l + 1 < S.1) (hk : k < S.2.1 l) : 0 < S.2.1 (l + 1) := by
  have h6 := h.2.2.2.2.2.1 l hl
  rcases Nat.eq_zero_or_pos (S.2.1 (l + 1)) with q | q
  · rw [q] at h6; simp only [pv_sum] at h6; omega
  · exact q
/-- the parent of a node below has at least two -/
theorem pv_wfy.par2 {F : Nat} {S : pv_Sh} {c l k : Nat} (h : pv_wfy F S c l k) (hl : l + 1 < S.1) {up : Nat} (hup : up < S.2.1 (l + 1)) : 2 ≤ S.2.2 (l + 1) up := by
  obtain ⟨h1, h2, h3, h4, h5, h6, h7, h8, h9⟩ := h
  by_cases ht : l + 2 < S.1
  · rcases h7 (l + 1) up (by omega) hup with q | ⟨q, -, -⟩ <;> omega
  · have e : S.1 - 1 = l + 1 := by omega
    rw [e] at h4 h9
    rw [h4] at hup
    obtain rfl : up = 0 := by omega
    rcases h9 (by omega) with q | ⟨q, -⟩ <;> omega
/-- a level's sizes change at k and at j, the sum is kept -/
theorem pv_wfy.lend {F : Nat} {S : pv_Sh} {c l k j : Nat} (h : pv_wfy F S c l k) (hl : l + 1 < S.1) (hk : k < S.2.1 l) (hj : j < S.2.1 l) (hjk : j ≠ k) (hz : ¬ (F + 1) / 2 ≤ S.2.2 l k) (hb : (F + 1) / 2 < S.2.2 l j) : pv_wf F (pv_set (pv_set S l j (S.2.2 l j - 1)) l k (S.2.2 l k + 1)) c := by
  obtain ⟨h1, h2, h3, h4, h5, h6, h7, h8, h9⟩ := h
  have hlow : (F + 1) / 2 ≤ S.2.2 l k + 1 := by rcases h7 l k hl hk with q | ⟨-, -, q⟩ <;> omega
  have ez : ∀ l', l' ≠ l → (pv_set (pv_set S l j (S.2.2 l j - 1)) l k (S.2.2 l k + 1)).2.2 l' = S.2.2 l' := fun l' a => by simp only [pv_set, va_up_ne _ _ a]
  have ez2 : (pv_set (pv_set S l j (S.2.2 l j - 1)) l k (S.2.2 l k + 1)).2.2 l = va_up (va_up (S.2.2 l) j (S.2.2 l j - 1)) k (S.2.2 l k + 1) := by simp only [pv_set, va_up_self]
  have ez0 : ∀ i, (pv_set (pv_set S l j (S.2.2 l j - 1)) l k (S.2.2 l k + 1)).2.2 l i = (if i = k then S.2.2 l k + 1 else if i = j then S.2.2 l j - 1 else S.2.2 l i) := fun i => by
    rw [ez2]; rfl
  have s1 := pv_sum_up (z := S.2.2 l) (k := j) (x := S.2.2 l j - 1) (c := S.2.1 l) hj
  have s2 := pv_sum_up (z := va_up (S.2.2 l) j (S.2.2 l j - 1)) (k := k) (x := S.2.2 l k + 1) (c := S.2.1 l) hk
  rw [va_up_ne _ _ (Ne.symm hjk)] at s2
  have ec : (pv_set (pv_set S l j (S.2.2 l j - 1)) l k (S.2.2 l k + 1)).2.1 = S.2.1 := rfl
  have e1 : (pv_set (pv_set S l j (S.2.2 l j - 1)) l k (S.2.2 l k + 1)).1 = S.1 := rfl
  have hs : pv_sum (va_up (va_up (S.2.2 l) j (S.2.2 l j - 1)) k (S.2.2 l k + 1)) (S.2.1 l) = pv_sum (S.2.2 l) (S.2.1 l) := by omega
  generalize pv_set (pv_set S l j (S.2.2 l j - 1)) l k (S.2.2 l k + 1) = T at ez ez0 ez2 ec e1 ⊢
  refine ⟨h1, h2, by rw [e1]; exact h3, by rw [e1, ec]; exact h4, ?_, fun l' hl' => ?_, fun l' k' hl' hk' => ?_, fun l' k' hl' hk' => ?_, fun hh => ?_⟩
  · rw [ec]
    by_cases a : l = 0
    · subst a; rw [ez2, hs]; exact h5
    · rw [ez 0 (by omega)]; exact h5
  · rw [e1] at hl'
    rw [ec]
    by_cases a : l' + 1 = l
    · subst a; rw [ez2, hs]; exact h6 l' hl'
    · rw [ez _ a]; exact h6 l' hl'
  · rw [e1] at hl'
    rw [ec] at hk'
    by_cases a : l' = l
    · subst a
      rw [ez0]
      split
      · omega
      · next nk =>
        split
        · omega
        · rcases h7 l' k' hl' hk' with q | ⟨-, q, -⟩
          · exact q
          · exact absurd q nk
    · rw [ez l' a]
      rcases h7 l' k' hl' hk' with q | ⟨q, -, -⟩
      · exact q
      · exact absurd q a
  · rw [e1] at hl'
    rw [ec] at hk'
    by_cases a : l' = l
    · subst a
      rw [ez0]
      have := h8 l' k' hl' hk'
      have := h8 l' j hl' hj
      split
      · omega
      · split <;> omega
    · rw [ez l' a]; exact h8 l' k' hl' hk'
  · rw [e1] at hh ⊢
    rw [ez _ (by omega)]
    rcases h9 hh with q | ⟨q, -⟩
    · exact q
    · omega
/-- two neighbours under one parent become one -/
theorem pv_wfy.melt {F : Nat} {S : pv_Sh} {c l k tt up : Nat} (h : pv_wfy F S c l k) (hl : l + 1 < S.1) (ht : tt + 1 < S.2.1 l) (hup : up < S.2.1 (l + 1)) (hsz : S.2.2 l tt + S.2.2 l (tt + 1) ≤ F) (hlo : (F + 1) / 2 ≤ S.2.2 l tt + S.2.2 l (tt + 1)) (hin : tt = k ∨ tt + 1 = k) :
    pv_wfy F (S.1, va_up S.2.1 l (S.2.1 l - 1), va_up (va_up S.2.2 l (pv_zd (va_up (S.2.2 l) tt (S.2.2 l tt + S.2.2 l (tt + 1))) (tt + 1))) (l + 1) (va_up (S.2.2 (l + 1)) up (S.2.2 (l + 1) up - 1))) c (l + 1) up := by
  have hp2 := h.par2 hl hup
  obtain ⟨h1, h2, h3, h4, h5, h6, h7, h8, h9⟩ := h
  generalize hT : ((S.1, va_up S.2.1 l (S.2.1 l - 1), va_up (va_up S.2.2 l (pv_zd (va_up (S.2.2 l) tt (S.2.2 l tt + S.2.2 l (tt + 1))) (tt + 1))) (l + 1) (va_up (S.2.2 (l + 1)) up (S.2.2 (l + 1) up - 1))) : pv_Sh) = T
  have e1 : T.1 = S.1 := by rw [← hT]
  have ec : ∀ l', l' ≠ l → T.2.1 l' = S.2.1 l' := fun l' a => by rw [← hT]; exact va_up_ne _ _ a
  have ec0 : T.2.1 l = S.2.1 l - 1 := by rw [← hT]; exact va_up_self _ _ _
  have ez : ∀ l', l' ≠ l → l' ≠ l + 1 → T.2.2 l' = S.2.2 l' := fun l' a b => by rw [← hT]; simp only [va_up_ne _ _ a, va_up_ne _ _ b]
  have ez0 : T.2.2 l = pv_zd (va_up (S.2.2 l) tt (S.2.2 l tt + S.2.2 l (tt + 1))) (tt + 1) := by rw [← hT]; simp only [va_up_ne _ _ (show l ≠ l + 1 by omega), va_up_self]
  have ez1 : T.2.2 (l + 1) = va_up (S.2.2 (l + 1)) up (S.2.2 (l + 1) up - 1) := by rw [← hT]; simp only [va_up_self]
  have zd : ∀ i, pv_zd (va_up (S.2.2 l) tt (S.2.2 l tt + S.2.2 l (tt + 1))) (tt + 1) i = (if i = tt then S.2.2 l tt + S.2.2 l (tt + 1) else if i < tt then S.2.2 l i else S.2.2 l (i + 1)) := by
    intro i
    unfold pv_zd
    by_cases a : i < tt + 1
    · rw [if_pos a]
      by_cases b : i = tt
      · subst b; rw [va_up_self, if_pos rfl]
      · rw [va_up_ne _ _ b, if_neg b, if_pos (by omega)]
    · rw [if_neg a, va_up_ne _ _ (by omega), if_neg (by omega), if_neg (by omega)]
  have hsum : pv_sum (pv_zd (va_up (S.2.2 l) tt (S.2.2 l tt + S.2.2 l (tt + 1))) (tt + 1)) (S.2.1 l - 1) = pv_sum (S.2.2 l) (S.2.1 l) := by
    obtain ⟨c', hc'⟩ : ∃ c', S.2.1 l = c' + 1 := ⟨S.2.1 l - 1, by omega⟩
    have q1 := pv_sum_zd (z := va_up (S.2.2 l) tt (S.2.2 l tt + S.2.2 l (tt + 1))) (i := tt + 1) (c := c') (by omega)
    have q2 := pv_sum_up (z := S.2.2 l) (k := tt) (x := S.2.2 l tt + S.2.2 l (tt + 1)) (c := c' + 1) (by omega)
    rw [va_up_ne _ _ (show tt + 1 ≠ tt by omega)] at q1
    rw [hc', Nat.add_sub_cancel]
    omega
  refine ⟨h1, h2, by rw [e1]; exact h3, by rw [e1, ec _ (by omega)]; exact h4, ?_, fun l' hl' => ?_, fun l' k' hl' hk' => ?_, fun l' k' hl' hk' => ?_, fun hh => ?_⟩
  · by_cases a : l = 0
    · subst a; rw [ez0, ec0, hsum]; exact h5
    · rw [ez 0 (by omega) (by omega), ec 0 (by omega)]; exact h5
  · rw [e1] at hl'
    by_cases a : l' = l
    · subst a
      rw [ez1, ec _ (by omega), ec0]
      have q1 := pv_sum_up (z := S.2.2 (l' + 1)) (k := up) (x := S.2.2 (l' + 1) up - 1) (c := S.2.1 (l' + 1)) hup
      have q2 := h6 l' hl'
      omega
    · rw [ec l' a]
      by_cases b : l' + 1 = l
      · subst b; rw [ez0, ec0, hsum]; exact h6 l' hl'
      · rw [ez (l' + 1) b (by omega), ec (l' + 1) b]; exact h6 l' hl'
  · rw [e1] at hl'
    by_cases a : l' = l
    · subst a
      rw [ec0] at hk'
      left
      rw [ez0, zd]
      split
      · exact hlo
      · next n1 =>
        split
        · next n2 => rcases h7 l' k' hl' (by omega) with q | ⟨-, q, -⟩ <;> omega
        · rcases h7 l' (k' + 1) hl' (by omega) with q | ⟨-, q, -⟩ <;> omega
    · rw [ec l' a] at hk'
      by_cases b : l' = l + 1
      · subst b
        rw [ez1]
        have hq := h7 (l + 1) k' hl' hk'
        by_cases d : k' = up
        · subst d; rw [va_up_self]; right; refine ⟨rfl, rfl, ?_⟩; rcases hq with q | ⟨q, -, -⟩ <;> omega
        · rw [va_up_ne _ _ d]; left; rcases hq with q | ⟨q, -, -⟩ <;> omega
      · rw [ez l' a b]
        left
        rcases h7 l' k' hl' hk' with q | ⟨q, -, -⟩
        · exact q
        · exact absurd q a
  · rw [e1] at hl'
    by_cases a : l' = l
    · subst a
      rw [ec0] at hk'
      rw [ez0, zd]
      split
      · exact hsz
      · split
        · exact h8 l' k' hl' (by omega)
        · exact h8 l' (k' + 1) hl' (by omega)
    · rw [ec l' a] at hk'
      by_cases b : l' = l + 1
      · subst b
        rw [ez1]
        have hq := h8 (l + 1) k' hl' hk'
        by_cases d : k' = up
        · subst d; rw [va_up_self]; omega
        · rw [va_up_ne _ _ d]; exact hq
      · rw [ez l' a b]; exact h8 l' k' hl' hk'
  · rw [e1] at hh ⊢
    by_cases b : S.1 - 1 = l + 1
    · rw [b, ez1]
      rw [b] at h4
      rw [h4] at hup
      obtain rfl : up = 0 := by omega
      rw [va_up_self]
      right
      exact ⟨rfl, by omega⟩
    · rw [ez _ (by omega) b]
      left
      rcases h9 hh with q | ⟨q, -⟩
      · exact q
      · omega
theorem pv_wfy.wf {F : Nat} {S : pv_Sh} {c x y : Nat} (h : pv_wfy F S c x y) (hlow : (F + 1) / 2 ≤ S.2.2 x y) (hx : x + 1 < S.1) : pv_wf F S c := by
  obtain ⟨h1, h2, h3, h4, h5, h6, h7, h8, h9⟩ := h
  refine ⟨h1, h2, h3, h4, h5, h6, fun l k a b => ?_, h8, fun hh => ?_⟩
  · rcases h7 l k a b with q | ⟨rfl, rfl, -⟩
    · exact q
    · exact hlow
  · rcases h9 hh with q | ⟨q, -⟩
    · exact q
    · omega
/-- one settling: by what the reference's step says -/
theorem pv_wfy.step {F : Nat} {S : pv_Sh} {c l k : Nat} (h : pv_wfy F S c l k) (hl : l + 1 < S.1) (hk : k < S.2.1 l) (hz : ¬ (F + 1) / 2 ≤ S.2.2 l k) :
    (if (pv_st1 ((F + 1) / 2) S l k (pv_hd S (l + 1) k)).1 = true then pv_wfy F (pv_st1 ((F + 1) / 2) S l k (pv_hd S (l + 1) k)).2 c (l + 1) (pv_hd S (l + 1) k) else pv_wf F (pv_st1 ((F + 1) / 2) S l k (pv_hd S (l + 1) k)).2 c) := by
  have hC1 := h.C1 hl hk
  have h6 := h.2.2.2.2.2.1 l hl
  obtain ⟨p1, p2, p3⟩ := pv_hd_ex (S := S) (l := l + 1) (k := k) hC1 (by rw [h6]; exact hk)
  have hp2 := h.par2 hl p1
  have h7 := h.2.2.2.2.2.2.1
  have h8 := h.2.2.2.2.2.2.2.1
  have hF3 := h.1
  have hF5 := h.2.1
  have hlowk : (F + 1) / 2 ≤ S.2.2 l k + 1 := by rcases h7 l k hl hk with q | ⟨-, -, q⟩ <;> omega
  generalize hupp : pv_hd S (l + 1) k = up at p1 p2 p3 hp2 ⊢
  have hm := pv_sum_mono (S.2.2 (l + 1)) (up + 1) (S.2.1 (l + 1) - (up + 1))
  rw [show up + 1 + (S.2.1 (l + 1) - (up + 1)) = S.2.1 (l + 1) by omega, h6] at hm
  have hsx : pv_sum (S.2.2 (l + 1)) (up + 1) = pv_sum (S.2.2 (l + 1)) up + S.2.2 (l + 1) up := rfl
  unfold pv_st1
  by_cases hA : 0 < k - pv_sum (S.2.2 (l + 1)) up ∧ (F + 1) / 2 < S.2.2 l (k - 1)
  · rw [if_pos hA]
    simp only [Bool.false_eq_true, if_false]
    exact h.lend hl hk (by omega) (by omega) hz hA.2
  · rw [if_neg hA]
    by_cases hB : k - pv_sum (S.2.2 (l + 1)) up + 1 < S.2.2 (l + 1) up ∧ (F + 1) / 2 < S.2.2 l (k + 1)
    · rw [if_pos hB]
      simp only [Bool.false_eq_true, if_false]
      exact h.lend hl hk (by omega) (by omega) hz hB.2
    · rw [if_neg hB]
      simp only [if_true]
      by_cases hw : 0 < k - pv_sum (S.2.2 (l + 1)) up
      · rw [if_pos hw]
        have hle : S.2.2 l (k - 1) ≤ (F + 1) / 2 := by
          rcases Nat.lt_or_ge ((F + 1) / 2) (S.2.2 l (k - 1)) with q | q
          · exact absurd ⟨hw, q⟩ hA
          · exact q
        have hge : (F + 1) / 2 ≤ S.2.2 l (k - 1) := by rcases h7 l (k - 1) hl (by omega) with q | ⟨-, q, -⟩ <;> omega
        have e : k - 1 + 1 = k := by omega
        exact h.melt hl (by omega) p1 (by rw [e]; omega) (by rw [e]; omega) (Or.inr e)
      · rw [if_neg hw]
        have hr : k - pv_sum (S.2.2 (l + 1)) up + 1 < S.2.2 (l + 1) up := by omega
        have hle : S.2.2 l (k + 1) ≤ (F + 1) / 2 := by
          rcases Nat.lt_or_ge ((F + 1) / 2) (S.2.2 l (k + 1)) with q | q
          · exact absurd ⟨hr, q⟩ hB
          · exact q
        have hge : (F + 1) / 2 ≤ S.2.2 l (k + 1) := by rcases h7 l (k + 1) hl (by omega) with q | ⟨-, q, -⟩ <;> omega
        exact h.melt hl (by omega) p1 (by omega) (by omega) (Or.inl rfl)
/-- what settling comes to: a tree but for the root's size -/
def pv_wfr (F : Nat) (S : pv_Sh) (c : Nat) : Prop := 3 ≤ F ∧ F ≤ 5 ∧ 0 < S.1 ∧ S.2.1 (S.1 - 1) = 1 ∧ pv_sum (S.2.2 0) (S.2.1 0) = c ∧ (∀ l, l + 1 < S.1 → pv_sum (S.2.2 (l + 1)) (S.2.1 (l + 1)) = S.2.1 l) ∧ (∀ l k, l + 1 < S.1 → k < S.2.1 l → (F + 1) / 2 ≤ S.2.2 l k) ∧ (∀ l k, l < S.1 → k < S.2.1 l → S.2.2 l k ≤ F) ∧ (1 < S.1 → 1 ≤ S.2.2 (S.1 - 1) 0)
theorem pv_stl_wf {F : Nat} : ∀ (f : Nat) {S : pv_Sh} {c l k : Nat}, pv_wfy F S c l k → l < S.1 → k < S.2.1 l → S.1 - l ≤ f → pv_wfr F (pv_stl ((F + 1) / 2) f S l k) c := by
  intro f
  induction f with
  | zero => intro S c l k h hl hk hf; omega
  | succ f ih =>
    intro S c l k h hl hk hf
    simp only [pv_stl]
    have wr : pv_wf F S c → pv_wfr F S c := fun q => ⟨q.1, q.2.1, q.2.2.1, q.2.2.2.1, q.2.2.2.2.1, q.2.2.2.2.2.1, q.2.2.2.2.2.2.1, q.2.2.2.2.2.2.2.1, fun hh => by have := q.2.2.2.2.2.2.2.2 hh; omega⟩
    by_cases ht : S.1 ≤ l + 1
    · rw [if_pos ht]
      obtain ⟨h1, h2, h3, h4, h5, h6, h7, h8, h9⟩ := h
      refine ⟨h1, h2, h3, h4, h5, h6, fun l' k' a b => ?_, h8, fun hh => ?_⟩
      · rcases h7 l' k' a b with q | ⟨q, -, -⟩
        · exact q
        · omega
      · rcases h9 hh with q | ⟨-, q⟩ <;> omega
    · rw [if_neg ht]
      by_cases hz : (F + 1) / 2 ≤ S.2.2 l k
      · rw [if_pos hz]; exact wr (h.wf hz (by omega))
      · rw [if_neg hz]
        have hs := h.step (by omega) hk hz
        have p1 := pv_hd_lt (S := S) (l := l + 1) (k := k) (h.C1 (by omega) hk)
        by_cases hm : (pv_st1 ((F + 1) / 2) S l k (pv_hd S (l + 1) k)).1 = true
        · rw [if_pos hm] at hs ⊢
          have e1 : (pv_st1 ((F + 1) / 2) S l k (pv_hd S (l + 1) k)).2.1 = S.1 := by
            unfold pv_st1; split
            · rfl
            · split <;> rfl
          have ec : (pv_st1 ((F + 1) / 2) S l k (pv_hd S (l + 1) k)).2.2.1 (l + 1) = S.2.1 (l + 1) := by
            unfold pv_st1; split
            · rfl
            · split
              · rfl
              · exact va_up_ne _ _ (by omega)
          exact ih hs (by rw [e1]; omega) (by rw [ec]; exact p1) (by rw [e1]; omega)
        · rw [if_neg hm] at hs ⊢
          have e1 : (pv_st1 ((F + 1) / 2) S l k (pv_hd S (l + 1) k)).2.1 = S.1 := by
            unfold pv_st1; split
            · rfl
            · split <;> rfl
          exact ⟨hs.1, hs.2.1, hs.2.2.1, hs.2.2.2.1, hs.2.2.2.2.1, hs.2.2.2.2.2.1, hs.2.2.2.2.2.2.1, hs.2.2.2.2.2.2.2.1, fun hh => by have := hs.2.2.2.2.2.2.2.2 hh; omega⟩
theorem pv_top_wf {F : Nat} {S : pv_Sh} {c : Nat} (h : pv_wfr F S c) (f : Nat) (hf : 2 ≤ f) : pv_wf F (pv_top f S) c ∧ (pv_top f S = S ∨ (1 < S.1 ∧ S.2.2 (S.1 - 1) 0 = 1 ∧ pv_top f S = (S.1 - 1, S.2.1, S.2.2))) := by
  obtain ⟨f', rfl⟩ : ∃ f', f = f' + 2 := ⟨f - 2, by omega⟩
  obtain ⟨h1, h2, h3, h4, h5, h6, h7, h8, h9⟩ := h
  simp only [pv_top]
  by_cases hc : 1 < S.1 ∧ S.2.2 (S.1 - 1) 0 = 1
  · rw [if_pos hc]
    obtain ⟨l, hl⟩ : ∃ l, S.1 = l + 2 := ⟨S.1 - 2, by omega⟩
    have e : S.1 - 1 = l + 1 := by omega
    rw [e] at h4 hc ⊢
    have hCl : S.2.1 l = 1 := by
      have := h6 l (by omega)
      rw [h4] at this
      simp only [pv_sum, hc.2] at this
      omega
    have hzl : 2 ≤ S.2.2 l 0 := by have := h7 l 0 (by omega) (by omega); omega
    have hstop : ¬ (1 < l + 1 ∧ S.2.2 (l + 1 - 1) 0 = 1) := fun q => by
      have := q.2
      rw [Nat.add_sub_cancel] at this
      omega
    rw [if_neg hstop]
    refine ⟨⟨h1, h2, by show 0 < l + 1; omega, ?_, h5, fun l' hl' => h6 l' (by have : l' + 1 < l + 1 := hl'; omega), fun l' k' a b => h7 l' k' (by have : l' + 1 < l + 1 := a; omega) b, fun l' k' a b => h8 l' k' (by have : l' < l + 1 := a; omega) b, fun hh => ?_⟩, Or.inr ⟨hc.1, hc.2, rfl⟩⟩
    · show S.2.1 (l + 1 - 1) = 1
      rw [Nat.add_sub_cancel]; exact hCl
    · show 2 ≤ S.2.2 (l + 1 - 1) 0
      rw [Nat.add_sub_cancel]; exact hzl
  · rw [if_neg hc]
    refine ⟨⟨h1, h2, h3, h4, h5, h6, h7, h8, fun hh => ?_⟩, Or.inl rfl⟩
    have := h9 hh
    rcases Nat.lt_or_ge 1 (S.2.2 (S.1 - 1) 0) with q | q
    · omega
    · exact absurd ⟨hh, by omega⟩ hc
theorem pv_wf.drop {F : Nat} {S : pv_Sh} {c k : Nat} (h : pv_wf F S c) (hk : k < S.2.1 0) (hz : 0 < S.2.2 0 k) : pv_wfy F (pv_set S 0 k (S.2.2 0 k - 1)) (c - 1) 0 k := by
  obtain ⟨h1, h2, h3, h4, h5, h6, h7, h8, h9⟩ := h
  have hs := pv_sum_up (z := S.2.2 0) (k := k) (x := S.2.2 0 k - 1) (c := S.2.1 0) hk
  have hge : S.2.2 0 k ≤ pv_sum (S.2.2 0) (S.2.1 0) := by
    have hm := pv_sum_mono (S.2.2 0) (k + 1) (S.2.1 0 - (k + 1))
    rw [show k + 1 + (S.2.1 0 - (k + 1)) = S.2.1 0 by omega] at hm
    simp only [pv_sum] at hm
    omega
  refine ⟨h1, h2, h3, h4, ?_, fun l hl => ?_, fun l k' hl hk' => ?_, fun l k' hl hk' => ?_, fun hh => ?_⟩
  · simp only [pv_set, va_up_self]; omega
  · simp only [pv_set, va_up_ne _ _ (show l + 1 ≠ 0 by omega)]; exact h6 l hl
  · simp only [pv_set] at hl hk' ⊢
    have := h7 l k' hl hk'
    by_cases a : l = 0
    · subst a; rw [va_up_self]
      by_cases b : k' = k
      · subst b; rw [va_up_self]; right; exact ⟨rfl, rfl, by omega⟩
      · rw [va_up_ne _ _ b]; left; exact this
    · rw [va_up_ne _ _ a]; left; exact this
  · simp only [pv_set] at hl hk' ⊢
    have := h8 l k' hl hk'
    by_cases a : l = 0
    · subst a; rw [va_up_self]
      by_cases b : k' = k
      · subst b; rw [va_up_self]; omega
      · rw [va_up_ne _ _ b]; exact this
    · rw [va_up_ne _ _ a]; exact this
  · simp only [pv_set] at hh ⊢
    rw [va_up_ne _ _ (by omega)]; left; exact h9 hh
