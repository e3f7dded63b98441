/-! THE CLASS GROWS A ROOT -/
abbrev pv_hat (S : pv_Sh) : pv_Sh := (S.1 + 1, va_up S.2.1 S.1 1, va_up S.2.2 S.1 (va_up (S.2.2 S.1) 0 1))
theorem pv_grow_eq {F : Nat} {S : pv_Sh} {l : Nat} (hS : S.1 = l + 1) : pv_sp2 F (pv_hat S) l 0 0 = pv_grow (pv_sp1 F S l 0) := by
  obtain ⟨h, C, Z⟩ := S
  simp only at hS
  subst hS
  refine Prod.ext rfl (Prod.ext ?_ ?_)
  · funext l'
    simp only [pv_sp2, pv_set, pv_sp1, pv_hat, pv_grow, va_up]
    by_cases e1 : l' = l <;> by_cases e2 : l' = l + 1 <;> simp [e1, e2] <;> omega
  · funext l' k'
    simp only [pv_sp2, pv_set, pv_sp1, pv_hat, pv_grow, va_up]
    by_cases e1 : l' = l
    · subst e1; simp
    · by_cases e2 : l' = l + 1
      · subst e2; simp
        rw [bx_uu, va_up_self]
      · simp [e1, e2]
section CV
variable {tr : Nat} {PO : Nat → Prop} {F l : Nat} {H : pv_H} {A : Nat → Nat → Nat} {Lb : cp_L} {S : pv_Sh} {Ek Ev : Nat → Int32} {σ : sw_S} {pth : Nat → Option Nat} {plc : Nat → Int32}
theorem cu_grow (h : cx tr PO σ H F A Lb S Ek Ev pth plc) (hS : S.1 = l + 1) (hC : S.2.1 l = 1) (hz : S.2.2 l 0 = F + 1) (hF3 : 3 ≤ F) (hF : F ≤ 5) (hi : cp_in S l 0) (hlc : ∀ l' k', l' < S.1 → k' < S.2.1 l' → cp_lc S Ek Ev Lb l' k') :
    ∃ σ' H' A' Lb', f_X6_growRoot tr σ = some σ' ∧ cx tr PO σ' H' F A' Lb' (pv_grow (pv_sp1 F S l 0)) Ek Ev pth plc ∧ pv_sg PO σ σ' ∧ ∀ l' k', l' < (pv_grow (pv_sp1 F S l 0)).1 → k' < (pv_grow (pv_sp1 F S l 0)).2.1 l' → cp_lc (pv_grow (pv_sp1 F S l 0)) Ek Ev Lb' l' k' := by
  have hc := h.1
  have hb : ∀ l' k', l' < S.1 → k' < S.2.1 l' → A l' k' ≠ σ.1 := fun l' k' a b q => by
    obtain ⟨w, hw⟩ := h.2.kid a b
    rw [q, hc.1.fresh] at hw; cases hw
  obtain ⟨σ1, e1, n1, t1, -⟩ := pv_new hc.1 hc.lt (show F + 1 ≤ 6 by omega) (lf := 0) (Or.inl rfl)
  obtain ⟨hc1, -⟩ := hc.sg n1 t1
  have a1 := va_up_self H σ.1 (some ((0 : Int32), (fun _ => (0, 0, none) : pv_s), nI 0, (0 : Int32), (0 : Int32), (0 : Int32)))
  obtain ⟨wr, hwr⟩ := h.2.kid (l := S.1 - 1) (k := 0) (by omega) (by rw [hS]; simp only [Nat.add_sub_cancel]; omega)
  have hrb : A (S.1 - 1) 0 ≠ σ.1 := hb _ _ (by omega) (by rw [hS]; simp only [Nat.add_sub_cancel]; omega)
  obtain ⟨σ2, e2, n2, t2⟩ := pv_w3 n1 a1 (j := 0) (by omega) (r := some (A (S.1 - 1) 0)) (fun b hb' => by cases hb'; exact ⟨wr, by rw [va_up_ne _ _ hrb]; exact hwr⟩)
  rw [bx_uu] at n2
  obtain ⟨hc2, -⟩ := hc1.st n2 t2
  have a2 := va_up_self H σ.1 (some ((0 : Int32), va_up (fun _ => (0, 0, none) : pv_s) 0 (0, 0, some (A (S.1 - 1) 0)), nI 0, (0 : Int32), (0 : Int32), (0 : Int32)))
  obtain ⟨σ3, e3, n3, t3⟩ := pv_p4 n2 a2 (nI 1)
  rw [bx_uu] at n3
  obtain ⟨hc3, -⟩ := hc2.st n3 t3
  have a3 := va_up_self H σ.1 (some ((0 : Int32), va_up (fun _ => (0, 0, none) : pv_s) 0 (0, 0, some (A (S.1 - 1) 0)), nI 1, (0 : Int32), (0 : Int32), (0 : Int32)))
  have o3 : ∀ y, y ≠ σ.1 → va_up H σ.1 (some ((0 : Int32), va_up (fun _ => (0, 0, none) : pv_s) 0 (0, 0, some (A (S.1 - 1) 0)), nI 1, (0 : Int32), (0 : Int32), (0 : Int32))) y = H y := fun y hy => va_up_ne _ _ hy
  generalize va_up H σ.1 (some ((0 : Int32), va_up (fun _ => (0, 0, none) : pv_s) 0 (0, 0, some (A (S.1 - 1) 0)), nI 1, (0 : Int32), (0 : Int32), (0 : Int32))) = H3 at n3 hc3 a3 o3
  have hAo : ∀ l', l' < S.1 → va_up A S.1 (fun _ => σ.1) l' = A l' := fun l' q => va_up_ne _ _ (by omega)
  have hAh : va_up A S.1 (fun _ => σ.1) S.1 = fun _ => σ.1 := va_up_self _ _ _
  have hLo : ∀ l', l' < S.1 → va_up Lb S.1 (fun _ => ((0, 0, 0) : Int32 × Int32 × Int32)) l' = Lb l' := fun l' q => va_up_ne _ _ (by omega)
  have hCo : ∀ l', l' < S.1 → (pv_hat S).2.1 l' = S.2.1 l' := fun l' q => va_up_ne _ _ (by omega)
  have hZo : ∀ l', l' < S.1 → (pv_hat S).2.2 l' = S.2.2 l' := fun l' q => va_up_ne _ _ (by omega)
  have hCh : (pv_hat S).2.1 S.1 = 1 := va_up_self _ _ _
  have hZh : (pv_hat S).2.2 S.1 = va_up (S.2.2 S.1) 0 1 := va_up_self _ _ _
  have hcp : cp H3 (va_up A S.1 (fun _ => σ.1)) (va_up Lb S.1 (fun _ => (0, 0, 0))) (pv_hat S) Ek Ev := by
    refine ⟨fun l' k' hl' hk' => ?_, ?_⟩
    · have hl'' : l' < S.1 + 1 := hl'
      by_cases q : l' = S.1
      · subst q
        rw [hCh] at hk'
        obtain rfl : k' = 0 := by omega
        rw [hAh, hZh, va_up_self, va_up_self]
        refine ⟨_, by rw [if_neg (by omega)]; exact a3, fun q => by omega, fun j hj => ⟨fun q => by omega, fun _ => ?_⟩⟩
        obtain rfl : j = 0 := by omega
        rw [va_up_self, hAo _ (by omega)]; rfl
      · have hl3 : l' < S.1 := by omega
        rw [hCo l' hl3] at hk'
        rw [hAo l' hl3, hLo l' hl3, hZo l' hl3]
        exact (h.2.1 l' k' hl3 hk').mv (o3 _ (hb _ _ hl3 hk')) (fun _ _ _ => ⟨rfl, rfl⟩) (fun _ _ _ => by rw [hAo _ (by omega)])
    · intro l1 k1 l2 k2 q1 q2 q3 q4 he
      have q1' : l1 < S.1 + 1 := q1
      have q3' : l2 < S.1 + 1 := q3
      by_cases s1 : l1 = S.1
      · subst s1
        rw [hCh] at q2
        by_cases s2 : l2 = S.1
        · subst s2; rw [hCh] at q4; exact ⟨rfl, by omega⟩
        · rw [hCo l2 (by omega)] at q4
          rw [hAh, hAo l2 (by omega)] at he
          exact absurd he.symm (hb _ _ (by omega) q4)
      · rw [hCo l1 (by omega)] at q2
        by_cases s2 : l2 = S.1
        · subst s2
          rw [hAh, hAo l1 (by omega)] at he
          exact absurd he (hb _ _ (by omega) q2)
        · rw [hCo l2 (by omega)] at q4
          rw [hAo l1 (by omega), hAo l2 (by omega)] at he
          exact h.2.2 _ _ _ _ (by omega) q2 (by omega) q4 he
  have hZl1 : (pv_hat S).2.2 (l + 1) 0 = 1 := by rw [← hS, hZh, va_up_self]
  have hCl1 : (pv_hat S).2.1 (l + 1) = 1 := by rw [← hS, hCh]
  have hCl : (pv_hat S).2.1 l = 1 := by rw [hCo l (by omega), hC]
  have hZl : (pv_hat S).2.2 l = S.2.2 l := hZo l (by omega)
  have hhat : (pv_hat S).1 = S.1 + 1 := rfl
  obtain ⟨σ4, H4, b0, w1, w2, e4, hc4, cp4, t4, hw1, hw2⟩ := cu_yes (l := l) (k := 0) (up := 0) hc3 hcp (by omega) (by omega) hF3 hF (by omega) (by exact Nat.zero_le _) (by rw [hZl1]; exact Nat.lt_of_lt_of_le Nat.zero_lt_one (Nat.le_add_left _ _)) (by rw [hZl1]; omega) (by rw [hZl]; exact hz) (fun q j hj => by rw [hZl] at hj ⊢; rw [hCo _ (by omega)]; exact hi q j hj) (fun q j hj => by
    rw [hZl1] at hj
    show 0 + j < (pv_hat S).2.1 l
    rw [hCl]; omega)
  have lc4 := cp_split_lc (F := F) (S := pv_hat S) (l := l) (k := 0) (up := 0) (Lb := va_up Lb S.1 (fun _ => (0, 0, 0))) (Ek := Ek) (Ev := Ev) (w1 := w1) (w2 := w2) (kk := fun _ => 0) (by omega) (by omega) (by rw [hZl]; exact hz) hF3 (Nat.zero_le _) (by rw [hZl1]; exact Nat.lt_of_lt_of_le Nat.zero_lt_one (Nat.le_add_left _ _)) hw1 hw2 rfl rfl (fun l' k' q1 q2 q3 => by
    have q1' : l' < S.1 + 1 := q1
    by_cases s1 : l' = S.1
    · subst s1; rw [hCh] at q2; omega
    · rw [hCo l' (by omega)] at q2
      have q5 := hlc l' k' (by omega) q2
      unfold cp_lc at q5 ⊢
      rw [hLo l' (by omega), hZo l' (by omega), cp_w_mv (Lb := Lb) (f := pv_sum (S.2.2 l') k') (fun _ _ _ => ⟨rfl, rfl⟩) (fun _ _ _ => by rw [hLo _ (by omega)])]
      exact q5)
  have hA4 : va_up (va_up A S.1 (fun _ => σ.1)) l (pv_gi (va_up A S.1 (fun _ => σ.1) l) (0 + 1) b0) (l + 1) 0 = σ.1 := by rw [va_up_ne _ _ (by omega), ← hS, hAh]
  rw [pv_grow_eq hS] at cp4 lc4
  have hG1 : (pv_grow (pv_sp1 F S l 0)).1 = S.1 + 1 := rfl
  have hGC : (pv_grow (pv_sp1 F S l 0)).2.1 (l + 1) = 1 := by rw [← pv_grow_eq hS, sp2_C, if_neg (by omega), hCl1]
  have hGC0 : (pv_grow (pv_sp1 F S l 0)).2.1 l = 2 := by rw [← pv_grow_eq hS, sp2_C, if_pos rfl, hCl]
  have hGZ : (pv_grow (pv_sp1 F S l 0)).2.2 (l + 1) 0 = 2 := by rw [← pv_grow_eq hS, sp2_Zu, va_up_self, hZl1]
  obtain ⟨σ5, H5, e5, hc5, cp5, t5⟩ := cy_renew (l := l + 1) (k := 0) hc4 cp4 (by omega) (by omega) (by rw [hGZ]; omega) (fun _ j hj => by
    rw [hGZ] at hj
    simp only [Nat.add_sub_cancel]
    rw [hGC0]; show 0 + j < 2; omega)
  rw [hA4] at e5
  obtain ⟨σ6, e6, hc6, t6⟩ := hc5.sroot σ.1
  obtain ⟨σ7, e7, hc7, t7⟩ := hc6.sh (S.1 + 1)
  refine ⟨σ7, H5, _, _, ?_, ⟨?_, cp5⟩, ?_, fun l' k' q1 q2 => ?_⟩
  · unfold f_X6_growRoot
    rw [Option.bind_some, cw_nw _ (by have := hc.2.2.2; omega), hc.g0, Option.bind_some, nI_1, e1, Option.bind_some, pv_r3 n1 a1, Option.bind_some, hc1.r4, Option.bind_some, Option.bind_some]
    rw [show (0 : Int32) = nI 0 from rfl, e2, Option.bind_some]
    rw [show (1 : Int32) = nI 1 from rfl, e3, Option.bind_some, hc3.ob, Option.bind_some]
    rw [← hS, hAh] at e4
    rw [show nI (0 - pv_sum ((pv_hat S).2.2 S.1) 0) = nI 0 from rfl] at e4
    rw [e4, Option.bind_some]
    have ⟨s4, a4, _⟩ := cp4.1 (l + 1) 0 (by omega) (by omega)
    rw [hA4] at a4
    rw [pv_ob hc4.1 a4, Option.bind_some, e5, Option.bind_some, e6, Option.bind_some, hc6.g5, Option.bind_some]
    rw [show nI S.1 + nI 1 = nI (S.1 + 1) from nI_add _ _, e7, Option.bind_some]
  · rw [hG1, Nat.add_sub_cancel]
    rw [← hS] at hA4
    rw [hA4]
    exact hc7
  · have tt : pv_sg (ct_P tr PO) σ σ3 := (t1.tr t2.sg).tr t3.sg
    exact ((((hc.sg n3 tt).2.tr t4).tr t5).tr t6).tr t7
  · by_cases q : l' = l + 1 ∧ k' = 0
    · obtain ⟨rfl, rfl⟩ := q
      exact cp_lc_renew
    · have q1' : l' < S.1 + 1 := q1
      exact cp_lc_keep (lc4 l' k' q1 q2 (fun r => q ⟨by omega, r.2⟩)) q (fun r => by omega)
end CV
