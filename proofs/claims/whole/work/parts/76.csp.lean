/-! THE CLASS SPLITS: splitIfTooLarge -/
theorem cw_nw {ci a k : Nat} {σ : sw_S} (x : sw_E) (h : a < σ.1) : sw_gI ci a k (sw_nw σ x) = sw_gI ci a k σ := by
  unfold sw_gI sw_ob sw_nw
  simp only
  rw [if_neg (by omega)]
theorem pv_lb_eq {H H' : pv_H} {x : Nat} (h : H' x = H x) : pv_lb H' (some x) = pv_lb H (some x) := by simp [pv_lb, h]
theorem cw_half {F : Nat} (h1 : 3 ≤ F) (h2 : F ≤ 5) : (nI F + 2) / 2 = nI ((F + 2) / 2) := by
  rcases (show F = 3 ∨ F = 4 ∨ F = 5 by omega) with e | e | e <;> subst e <;> decide
section CU
variable {tr : Nat} {PO : Nat → Prop} {F h0 r0 : Nat} {H : pv_H} {A : Nat → Nat → Nat} {Lb : cp_L} {S : pv_Sh} {Ek Ev : Nat → Int32} {σ : sw_S} {pth : Nat → Option Nat} {plc : Nat → Int32}
theorem cy_renew {l k : Nat} (hc : ct tr PO (F + 1) σ H F h0 r0 pth plc) (h : cp H A Lb S Ek Ev) (hl : l < S.1) (hk : k < S.2.1 l) (hn : S.2.2 l k ≤ F + 1) (hi : cp_in S l k) :
    ∃ σ' H', f_X1_renew (A l k) σ = some σ' ∧ ct tr PO (F + 1) σ' H' F h0 r0 pth plc ∧ cp H' A (cp_u Lb l k (cp_w Ek Ev Lb l (pv_sum (S.2.2 l) k) (S.2.2 l k) (Lb l k).1)) S Ek Ev ∧ pv_sg PO σ σ' := by
  obtain ⟨σ', H', e, n1, t1, o1, c1⟩ := cp_renew (Lb := Lb) hc.1 (h.1 l k hl hk) hn (fun h0 j hj => ⟨h.kid (by omega) (hi h0 j hj), h.ne (by omega) (hi h0 j hj) hl hk (by omega), (h.1 (l - 1) _ (by omega) (hi h0 j hj)).lb⟩)
  obtain ⟨c2, t2⟩ := hc.st n1 t1
  refine ⟨σ', H', e, c2, ⟨fun l' k' hl' hk' => ?_, h.2⟩, t2⟩
  by_cases hq : l' = l ∧ k' = k
  · obtain ⟨rfl, rfl⟩ := hq
    rw [cp_u_self]; exact c1
  · rw [cp_u_ne hq]
    exact (h.1 l' k' hl' hk').mv (o1 _ (h.ne hl' hk' hl hk hq)) (fun _ _ _ => ⟨rfl, rfl⟩) (fun _ _ _ => rfl)
variable {l k up : Nat}
theorem cu_no (hc : ct tr PO (F + 1) σ H F h0 r0 pth plc) (h : cp H A Lb S Ek Ev) (hl : l + 1 < S.1) (hk : k < S.2.1 l) (hF : F ≤ 5) (hup : up < S.2.1 (l + 1)) (h1 : pv_sum (S.2.2 (l + 1)) up ≤ k) (h2 : k < pv_sum (S.2.2 (l + 1)) up + S.2.2 (l + 1) up) (hp : S.2.2 (l + 1) up ≤ F) (hz : S.2.2 l k ≤ F) :
    f_X6_splitIfTooLarge tr (A (l + 1) up) (nI (k - pv_sum (S.2.2 (l + 1)) up)) σ = some σ := by
  obtain ⟨sp, g1, -, g3⟩ := h.1 (l + 1) up hl hup
  obtain ⟨s, k1, -, -⟩ := h.1 l k (by omega) hk
  have e := (g3 (k - pv_sum (S.2.2 (l + 1)) up) (by omega)).2 (by omega)
  rw [show pv_sum (S.2.2 (l + 1)) up + (k - pv_sum (S.2.2 (l + 1)) up) = k by omega] at e
  simp only [Nat.add_sub_cancel] at e
  unfold f_X6_splitIfTooLarge
  rw [pv_r3 hc.1 g1, Option.bind_some, Option.bind_some, pv_a3 hc.1 g1 (by omega), Option.bind_some, e, Option.bind_some, pv_g4 hc.1 k1, Option.bind_some, hc.g0, Option.bind_some, if_neg (nI_nlt hz (by omega))]
theorem cu_yes (hc : ct tr PO (F + 1) σ H F h0 r0 pth plc) (h : cp H A Lb S Ek Ev) (hl : l + 1 < S.1) (hk : k < S.2.1 l) (hF3 : 3 ≤ F) (hF : F ≤ 5) (hup : up < S.2.1 (l + 1)) (h1 : pv_sum (S.2.2 (l + 1)) up ≤ k) (h2 : k < pv_sum (S.2.2 (l + 1)) up + S.2.2 (l + 1) up) (hp : S.2.2 (l + 1) up ≤ F) (hz : S.2.2 l k = F + 1) (hi : cp_in S l k) (hi2 : cp_in S (l + 1) up) :
    ∃ σ' H' b0 w1 w2, f_X6_splitIfTooLarge tr (A (l + 1) up) (nI (k - pv_sum (S.2.2 (l + 1)) up)) σ = some σ' ∧ ct tr PO (F + 1) σ' H' F h0 r0 pth plc ∧ cp H' (va_up A l (pv_gi (A l) (k + 1) b0)) (va_up Lb l (pv_gi (va_up (Lb l) k w1) (k + 1) w2)) (pv_sp2 F S l k up) Ek Ev ∧ pv_sg PO σ σ' ∧ w1 = cp_w Ek Ev Lb l (pv_sum (S.2.2 l) k) ((F + 2) / 2) w1.1 ∧ w2 = cp_w Ek Ev Lb l (pv_sum (S.2.2 l) k + (F + 2) / 2) (F + 1 - (F + 2) / 2) w2.1 := by
  have hka := h.1 l k (by omega) hk
  have hpa := h.1 (l + 1) up hl hup
  obtain ⟨sp, g1, -, g3⟩ := id hpa
  obtain ⟨s, k1, -, -⟩ := id hka
  have e := (g3 (k - pv_sum (S.2.2 (l + 1)) up) (by omega)).2 (by omega)
  rw [show pv_sum (S.2.2 (l + 1)) up + (k - pv_sum (S.2.2 (l + 1)) up) = k by omega] at e
  simp only [Nat.add_sub_cancel] at e
  have hb : ∀ l' k', l' < S.1 → k' < S.2.1 l' → A l' k' ≠ σ.1 := fun l' k' a b q => by
    obtain ⟨w, hw⟩ := h.kid a b
    rw [q, hc.1.fresh] at hw; cases hw
  have hap : A l k ≠ A (l + 1) up := h.ne (by omega) hk hl hup (by omega)
  have hlt : A l k < σ.1 := by have := hc.1.2.2.1 _ _ k1; omega
  obtain ⟨σ1, H1, e1, n1, t1, o1, c1⟩ := cp_new (A := A) (Ek := Ek) (Ev := Ev) (l := l) hc.1 hc.lt (by omega) (pv_sum (S.2.2 l) k + (F + 2) / 2)
  obtain ⟨hc1, -⟩ := hc.sg n1 t1
  have ha1 : cp_n H1 (A l k) A Ek Ev l (pv_sum (S.2.2 l) k) (F + 1) (Lb l k) := by
    rw [hz] at hka
    exact hka.mv (o1 _ (hb l k (by omega) hk)) (fun _ _ _ => ⟨rfl, rfl⟩) (fun _ _ _ => rfl)
  have hch : 0 < l → ∀ j, j < F + 1 → A (l - 1) (pv_sum (S.2.2 l) k + j) ≠ A l k ∧ A (l - 1) (pv_sum (S.2.2 l) k + j) ≠ σ.1 ∧ (∃ w, H (A (l - 1) (pv_sum (S.2.2 l) k + j)) = some w) ∧ pv_lb H (some (A (l - 1) (pv_sum (S.2.2 l) k + j))) = Lb (l - 1) (pv_sum (S.2.2 l) k + j) := by
    intro hl0 j hj
    have hx := hi hl0 j (by omega)
    exact ⟨h.ne (by omega) hx (by omega) hk (by omega), hb _ _ (by omega) hx, h.kid (by omega) hx, (h.1 _ _ (by omega) hx).lb⟩
  obtain ⟨σ2, H2, e2, n2, t2, o2, c2, d2⟩ := cp_tail n1 ha1 c1 (i := (F + 2) / 2) (hb l k (by omega) hk) (Nat.le_refl _) (by omega) (by omega) (by omega) (fun hl0 j hj => by
    obtain ⟨-, q2, ⟨w, q3⟩, -⟩ := hch hl0 j hj
    exact ⟨w, by rw [o1 _ q2]; exact q3⟩)
  obtain ⟨σ3, H3, e3, n3, t3, o3, c3⟩ := cp_renew (Lb := Lb) n2 c2 (by omega) (fun hl0 j hj => by
    obtain ⟨q1, q2, ⟨w, q3⟩, q4⟩ := hch hl0 j (by omega)
    have qe : H2 (A (l - 1) (pv_sum (S.2.2 l) k + j)) = H (A (l - 1) (pv_sum (S.2.2 l) k + j)) := by rw [o2 _ q1 q2, o1 _ q2]
    exact ⟨⟨w, by rw [qe]; exact q3⟩, q1, by rw [pv_lb_eq qe]; exact q4⟩)
  have d3 := d2.mv (H' := H3) (a' := σ.1) (A' := A) (Ek' := Ek) (Ev' := Ev) (f' := pv_sum (S.2.2 l) k + (F + 2) / 2) (o3 _ (Ne.symm (hb l k (by omega) hk))) (fun _ _ _ => ⟨rfl, rfl⟩) (fun _ _ _ => rfl)
  rw [Nat.zero_add] at d3
  obtain ⟨σ4, H4, e4, n4, t4, o4, d4⟩ := cp_renew (Lb := Lb) n3 d3 (by omega) (fun hl0 j hj => by
    obtain ⟨q1, q2, ⟨w, q3⟩, q4⟩ := hch hl0 ((F + 2) / 2 + j) (by omega)
    rw [← Nat.add_assoc] at q1 q2 q3 q4
    have qe : H3 (A (l - 1) (pv_sum (S.2.2 l) k + (F + 2) / 2 + j)) = H (A (l - 1) (pv_sum (S.2.2 l) k + (F + 2) / 2 + j)) := by rw [o3 _ q1, o2 _ q1 q2, o1 _ q2]
    exact ⟨⟨w, by rw [qe]; exact q3⟩, q2, by rw [pv_lb_eq qe]; exact q4⟩)
  have c4 := c3.mv (H' := H4) (a' := A l k) (A' := A) (Ek' := Ek) (Ev' := Ev) (f' := pv_sum (S.2.2 l) k) (o4 _ (hb l k (by omega) hk)) (fun _ _ _ => ⟨rfl, rfl⟩) (fun _ _ _ => rfl)
  have o14 : ∀ y, y ≠ A l k → y ≠ σ.1 → H4 y = H y := fun y q1 q2 => by rw [o4 _ q2, o3 _ q1, o2 _ q1 q2, o1 _ q2]
  have p4 := hpa.mv (H' := H4) (a' := A (l + 1) up) (A' := A) (Ek' := Ek) (Ev' := Ev) (f' := pv_sum (S.2.2 (l + 1)) up) (o14 _ (Ne.symm hap) (hb _ _ hl hup)) (fun _ _ _ => ⟨rfl, rfl⟩) (fun _ _ _ => rfl)
  obtain ⟨σ5, e5, r5, σ6, H6, e6, n6, t6, o6, p6⟩ := cp_ochild (q := k - pv_sum (S.2.2 (l + 1)) up) (a' := σ.1) (A' := va_up A l (pv_gi (A l) (k + 1) σ.1)) n4 p4 (by omega) (by omega) (fun _ j hj => by
    simp only [Nat.add_sub_cancel]
    by_cases hy : A l (pv_sum (S.2.2 (l + 1)) up + j) = A l k
    · rw [hy]; obtain ⟨s', q, -⟩ := c4; exact ⟨_, q⟩
    · have hx : pv_sum (S.2.2 (l + 1)) up + j < S.2.1 l := hi2 (by omega) j hj
      obtain ⟨w, hw⟩ := h.kid (l := l) (by omega) hx
      exact ⟨w, by rw [o14 _ hy (hb _ _ (by omega) hx)]; exact hw⟩) (by obtain ⟨s', q, -⟩ := d4; exact ⟨_, q⟩) (fun j hj => by
    rw [va_up_self]
    unfold pv_gi
    by_cases j1 : j ≤ k - pv_sum (S.2.2 (l + 1)) up
    · rw [if_pos j1, if_pos (by omega)]
    · rw [if_neg j1, if_neg (by omega)]
      by_cases j2 : j = k - pv_sum (S.2.2 (l + 1)) up + 1
      · rw [if_pos j2, if_pos (by omega)]
      · rw [if_neg j2, if_neg (by omega)]; congr 1; omega)
  have tt : pv_sg (ct_P tr PO) σ σ6 := ((((t1.tr t2.sg).tr t3.sg).tr t4.sg).tr t6.sg)
  obtain ⟨hc6, t7⟩ := hc.sg n6 tt
  refine ⟨σ6, H6, σ.1, _, _, ?_, hc6, cp_split h hl hk hz hF3 hup h1 h2 hb (c4.mv (o6 _ hap) (fun _ _ _ => ⟨rfl, rfl⟩) (fun _ _ _ => rfl)) (d4.mv (o6 _ (Ne.symm (hb _ _ hl hup))) (fun _ _ _ => ⟨rfl, rfl⟩) (fun _ _ _ => rfl)) p6 (fun y q1 q2 q3 => by rw [o6 _ q3, o14 _ q1 q2]), t7, cp_w_fix.symm, cp_w_fix.symm⟩
  unfold f_X6_splitIfTooLarge
  rw [pv_r3 hc.1 g1, Option.bind_some, Option.bind_some, pv_a3 hc.1 g1 (by omega), Option.bind_some, e, Option.bind_some, pv_g4 hc.1 k1, Option.bind_some, hc.g0, Option.bind_some, if_pos (nI_lt (by omega) (by omega)), Option.bind_some, cw_nw _ hlt, pv_g0 hc.1 k1, Option.bind_some, cw_nw _ (by have := hc.2.2.2; omega), hc.g0, Option.bind_some, nI_1, e1, Option.bind_some, hc1.g0, Option.bind_some]
  obtain ⟨s1, a1, -⟩ := id ha1
  rw [pv_ob n1 a1, Option.bind_some, cw_half hF3 hF, e2, Option.bind_some]
  obtain ⟨s2, a2, -⟩ := id c2
  rw [pv_ob n2 a2, Option.bind_some, e3, Option.bind_some]
  obtain ⟨s3, a3, -⟩ := id d3
  rw [pv_ob n3 a3, Option.bind_some, e4, Option.bind_some]
  obtain ⟨s4, a4, -⟩ := id p4
  rw [pv_ob n4 a4, Option.bind_some, nI_1, e5, Option.bind_some, r5, Option.bind_some, Option.bind_some, e6, Option.bind_some]
end CU
