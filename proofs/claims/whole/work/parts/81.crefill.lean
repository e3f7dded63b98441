/-! THE CLASS REFILLS a node -/
theorem pv_set_set {S : pv_Sh} {l i j x y : Nat} : pv_set (pv_set S l i x) l j y = (S.1, S.2.1, va_up S.2.2 l (va_up (va_up (S.2.2 l) i x) j y)) := by
  simp only [pv_set, va_up_self, bx_uu]
section CF
variable {tr : Nat} {PO : Nat → Prop} {F h0 r0 : Nat} {H : pv_H} {A : Nat → Nat → Nat} {Lb : cp_L} {S : pv_Sh} {Ek Ev : Nat → Int32} {σ : sw_S} {pth : Nat → Option Nat} {plc : Nat → Int32} {l up : Nat}
theorem cf_open {pl : Nat} (hc : ct tr PO (F + 1) σ H F h0 r0 pth plc) (h : cp H A Lb S Ek Ev) (hl : l + 1 < S.1) (hF : F ≤ 5) (hup : up < S.2.1 (l + 1)) (hp : pl < S.2.2 (l + 1) up) (hpF : S.2.2 (l + 1) up ≤ F) :
    f_X6_refill tr (A (l + 1) up) (nI pl) σ = b_X6_refill_47 tr (A (l + 1) up) (nI pl) (some (A l (pv_sum (S.2.2 (l + 1)) up + pl))) (if 0 < pl then some (A l (pv_sum (S.2.2 (l + 1)) up + pl - 1)) else none) (if pl + 1 < S.2.2 (l + 1) up then some (A l (pv_sum (S.2.2 (l + 1)) up + pl + 1)) else none) σ := by
  obtain ⟨sp, g1, -, g3⟩ := h.1 (l + 1) up hl hup
  have e : ∀ j, j < S.2.2 (l + 1) up → (sp j).2.2 = some (A l (pv_sum (S.2.2 (l + 1)) up + j)) := fun j hj => (g3 j hj).2 (by omega)
  have h23 : ∀ v3 t0, b_X6_refill_23 tr (A (l + 1) up) (nI pl) v3 t0 σ = b_X6_refill_47 tr (A (l + 1) up) (nI pl) v3 t0 (if pl + 1 < S.2.2 (l + 1) up then some (A l (pv_sum (S.2.2 (l + 1)) up + pl + 1)) else none) σ := by
    intro v3 t0
    unfold b_X6_refill_23
    rw [pv_g4 hc.1 g1, Option.bind_some, nI_1]
    by_cases q : pl + 1 < S.2.2 (l + 1) up
    · rw [if_neg (nI_ge q (by omega)), pv_r3 hc.1 g1, Option.bind_some, Option.bind_some, pv_a3 hc.1 g1 (by omega), Option.bind_some, e _ q, if_pos q]; rfl
    · rw [if_pos (nI_le (by omega) (by omega)), if_neg q]
  unfold f_X6_refill
  rw [pv_r3 hc.1 g1, Option.bind_some, Option.bind_some, pv_a3 hc.1 g1 (by omega), Option.bind_some, e _ hp, h23]
  by_cases q : 0 < pl
  · obtain ⟨m, rfl⟩ : ∃ m, pl = m + 1 := ⟨pl - 1, by omega⟩
    rw [if_neg (nI_nle q (by omega)), if_pos q, Option.bind_some, Option.bind_some, nI_pred, pv_a3 hc.1 g1 (by omega), Option.bind_some, h23, e _ (by omega)]; rfl
  · obtain rfl : pl = 0 := by omega
    rw [if_pos (by decide), if_neg q]
variable {m : Nat}
theorem cf_rng (h6 : ∀ l, l + 1 < S.1 → pv_sum (S.2.2 (l + 1)) (S.2.1 (l + 1)) = S.2.1 l) (hl : l < S.1) (hm : m + 1 < S.2.1 l) : 0 < l → ∀ j, j < S.2.2 l m + S.2.2 l (m + 1) → pv_sum (S.2.2 l) m + j < S.2.1 (l - 1) := by
  intro h0 j hj
  by_cases q : j < S.2.2 l m
  · exact cp_inn h6 hl (k := m) (by omega) h0 j q
  · have := cp_inn h6 hl (k := m + 1) hm h0 (j - S.2.2 l m) (by omega)
    simp only [pv_sum] at this
    omega
theorem cf_left (hc : ct tr PO (F + 1) σ H F h0 r0 pth plc) (h : cp H A Lb S Ek Ev) (hl : l < S.1) (hF : F ≤ 5) (h6 : ∀ l, l + 1 < S.1 → pv_sum (S.2.2 (l + 1)) (S.2.1 (l + 1)) = S.2.1 l) (hm : m + 1 < S.2.1 l) (hz : (F + 1) / 2 < S.2.2 l m) (hz1 : S.2.2 l m ≤ F) (hz2 : S.2.2 l (m + 1) ≤ F) (v1 : Nat) (v2 : Int32) (t0 : Option Nat) :
    ∃ σ' H' w1 w2, b_X6_refill_47 tr v1 v2 (some (A l (m + 1))) (some (A l m)) t0 σ = some σ' ∧ ct tr PO (F + 1) σ' H' F h0 r0 pth plc ∧ cp H' A (cp_u (cp_u Lb l m w1) l (m + 1) w2) (pv_ln S l m (S.2.2 l m - 1) (S.2.2 l (m + 1) + 1)) Ek Ev ∧ pv_sg PO σ σ' ∧ w1 = cp_w Ek Ev Lb l (pv_sum (S.2.2 l) m) (S.2.2 l m - 1) w1.1 ∧ w2 = cp_w Ek Ev Lb l (pv_sum (S.2.2 l) m + (S.2.2 l m - 1)) (S.2.2 l (m + 1) + 1) w2.1 := by
  have hr := cf_rng h6 hl hm
  have hne : A l m ≠ A l (m + 1) := h.ne hl (by omega) hl hm (by omega)
  have ca := h.1 l m hl (by omega)
  have cb := h.1 l (m + 1) hl hm
  have hch : 0 < l → ∀ x, pv_sum (S.2.2 l) m ≤ x → x < pv_sum (S.2.2 l) m + (S.2.2 l m + S.2.2 l (m + 1)) → A (l - 1) x ≠ A l m ∧ A (l - 1) x ≠ A l (m + 1) ∧ (∃ w, H (A (l - 1) x) = some w) ∧ pv_lb H (some (A (l - 1) x)) = Lb (l - 1) x := by
    intro hl0 x hx1 hx2
    have hx := hr hl0 (x - pv_sum (S.2.2 l) m) (by omega)
    rw [show pv_sum (S.2.2 l) m + (x - pv_sum (S.2.2 l) m) = x by omega] at hx
    obtain ⟨q1, q2, q3⟩ := h.ch hl0 hl hx
    exact ⟨q1 _ (by omega), q1 _ hm, q2, q3⟩
  have hfs : pv_sum (S.2.2 l) (m + 1) = pv_sum (S.2.2 l) m + S.2.2 l m := rfl
  obtain ⟨σ1, H1, e1, n1, t1, o1, c1, d1⟩ := cp_slotL hc.1 ca cb hne (by omega) (by omega) (by omega) rfl (fun hl0 j hj => (hch hl0 _ (by omega) (by omega)).2.2.1) (fun hl0 j hj => (hch hl0 _ (by omega) (by omega)).2.2.1)
  rw [show pv_sum (S.2.2 l) (m + 1) - 1 = pv_sum (S.2.2 l) m + (S.2.2 l m - 1) by omega] at d1
  obtain ⟨σ2, H2, e2, n2, t2, o2, c2⟩ := cp_renew (Lb := Lb) n1 c1 (by omega) (fun hl0 j hj => by
    obtain ⟨q1, q2, ⟨w, q3⟩, q4⟩ := hch hl0 (pv_sum (S.2.2 l) m + j) (by omega) (by omega)
    have qe := o1 _ q1 q2
    exact ⟨⟨w, qe.trans q3⟩, q1, (pv_lb_eq qe).trans q4⟩)
  have d2 := d1.mv (H' := H2) (a' := A l (m + 1)) (A' := A) (Ek' := Ek) (Ev' := Ev) (f' := pv_sum (S.2.2 l) m + (S.2.2 l m - 1)) (o2 _ (Ne.symm hne)) (fun _ _ _ => ⟨rfl, rfl⟩) (fun _ _ _ => rfl)
  obtain ⟨σ3, H3, e3, n3, t3, o3, d3⟩ := cp_renew (Lb := Lb) n2 d2 (by omega) (fun hl0 j hj => by
    obtain ⟨q1, q2, ⟨w, q3⟩, q4⟩ := hch hl0 (pv_sum (S.2.2 l) m + (S.2.2 l m - 1) + j) (by omega) (by omega)
    have qe : H2 (A (l - 1) (pv_sum (S.2.2 l) m + (S.2.2 l m - 1) + j)) = H (A (l - 1) (pv_sum (S.2.2 l) m + (S.2.2 l m - 1) + j)) := by rw [o2 _ q1, o1 _ q1 q2]
    exact ⟨⟨w, qe.trans q3⟩, q2, (pv_lb_eq qe).trans q4⟩)
  obtain ⟨hc3, t4⟩ := hc.sg n3 ((t1.tr t2).tr t3).sg
  refine ⟨σ3, H3, _, _, ?_, hc3, cp_lend h hl hm (by omega) (c2.mv (o3 _ hne) (fun _ _ _ => ⟨rfl, rfl⟩) (fun _ _ _ => rfl)) d3 (fun y q1 q2 => by rw [o3 _ q2, o2 _ q1, o1 _ q1 q2]), t4, cp_w_fix.symm, cp_w_fix.symm⟩
  obtain ⟨sa, a1, -⟩ := id ca
  obtain ⟨s1, b1, -⟩ := id c1
  obtain ⟨s2, b2, -⟩ := id d2
  unfold b_X6_refill_47
  rw [if_neg (by simp), Option.bind_some, pv_g4 hc.1 a1, Option.bind_some, hc.g1, Option.bind_some, if_neg (nI_ge hz (by omega)), Option.bind_some, Option.bind_some, pv_ob hc.1 a1, Option.bind_some]
  rw [show nI (S.2.2 l m) - 1 = nI (S.2.2 l m - 1) by
    obtain ⟨q, hq⟩ : ∃ q, S.2.2 l m = q + 1 := ⟨S.2.2 l m - 1, by omega⟩
    rw [hq, nI_pred]; rfl]
  rw [show (0 : Int32) = nI 0 from rfl, e1, Option.bind_some, pv_ob n1 b1, Option.bind_some, e2, Option.bind_some, pv_ob n2 b2, Option.bind_some, e3, Option.bind_some]
  rfl
theorem cf_right (hc : ct tr PO (F + 1) σ H F h0 r0 pth plc) (h : cp H A Lb S Ek Ev) (hl : l < S.1) (hF : F ≤ 5) (h6 : ∀ l, l + 1 < S.1 → pv_sum (S.2.2 (l + 1)) (S.2.1 (l + 1)) = S.2.1 l) (hm : m + 1 < S.2.1 l) (hz : (F + 1) / 2 < S.2.2 l (m + 1)) (hz1 : S.2.2 l m ≤ F) (hz2 : S.2.2 l (m + 1) ≤ F) (v1 : Nat) (v2 : Int32) (v4 : Option Nat) :
    ∃ σ' H' w1 w2, b_X6_refill_92 tr v1 v2 (some (A l m)) v4 (some (A l (m + 1))) σ = some σ' ∧ ct tr PO (F + 1) σ' H' F h0 r0 pth plc ∧ cp H' A (cp_u (cp_u Lb l m w1) l (m + 1) w2) (pv_ln S l m (S.2.2 l m + 1) (S.2.2 l (m + 1) - 1)) Ek Ev ∧ pv_sg PO σ σ' ∧ w1 = cp_w Ek Ev Lb l (pv_sum (S.2.2 l) m) (S.2.2 l m + 1) w1.1 ∧ w2 = cp_w Ek Ev Lb l (pv_sum (S.2.2 l) m + (S.2.2 l m + 1)) (S.2.2 l (m + 1) - 1) w2.1 := by
  have hr := cf_rng h6 hl hm
  have hne : A l m ≠ A l (m + 1) := h.ne hl (by omega) hl hm (by omega)
  have ca := h.1 l m hl (by omega)
  have cb := h.1 l (m + 1) hl hm
  have hch : 0 < l → ∀ x, pv_sum (S.2.2 l) m ≤ x → x < pv_sum (S.2.2 l) m + (S.2.2 l m + S.2.2 l (m + 1)) → A (l - 1) x ≠ A l m ∧ A (l - 1) x ≠ A l (m + 1) ∧ (∃ w, H (A (l - 1) x) = some w) ∧ pv_lb H (some (A (l - 1) x)) = Lb (l - 1) x := by
    intro hl0 x hx1 hx2
    have hx := hr hl0 (x - pv_sum (S.2.2 l) m) (by omega)
    rw [show pv_sum (S.2.2 l) m + (x - pv_sum (S.2.2 l) m) = x by omega] at hx
    obtain ⟨q1, q2, q3⟩ := h.ch hl0 hl hx
    exact ⟨q1 _ (by omega), q1 _ hm, q2, q3⟩
  have hfs : pv_sum (S.2.2 l) (m + 1) = pv_sum (S.2.2 l) m + S.2.2 l m := rfl
  obtain ⟨σ1, H1, e1, n1, t1, o1, c1, d1⟩ := cp_slotR hc.1 cb ca (Ne.symm hne) (by omega) (by omega) (by omega) rfl (fun hl0 j hj => (hch hl0 _ (by omega) (by omega)).2.2.1) (fun hl0 j hj => (hch hl0 _ (by omega) (by omega)).2.2.1)
  rw [show pv_sum (S.2.2 l) (m + 1) + 1 = pv_sum (S.2.2 l) m + (S.2.2 l m + 1) by omega] at c1
  obtain ⟨σ2, H2, e2, n2, t2, o2, c2⟩ := cp_renew (Lb := Lb) n1 c1 (by omega) (fun hl0 j hj => by
    obtain ⟨q1, q2, ⟨w, q3⟩, q4⟩ := hch hl0 (pv_sum (S.2.2 l) m + (S.2.2 l m + 1) + j) (by omega) (by omega)
    have qe := o1 _ q2 q1
    exact ⟨⟨w, qe.trans q3⟩, q2, (pv_lb_eq qe).trans q4⟩)
  have d2 := d1.mv (H' := H2) (a' := A l m) (A' := A) (Ek' := Ek) (Ev' := Ev) (f' := pv_sum (S.2.2 l) m) (o2 _ hne) (fun _ _ _ => ⟨rfl, rfl⟩) (fun _ _ _ => rfl)
  obtain ⟨σ3, H3, e3, n3, t3, o3, d3⟩ := cp_renew (Lb := Lb) n2 d2 (by omega) (fun hl0 j hj => by
    obtain ⟨q1, q2, ⟨w, q3⟩, q4⟩ := hch hl0 (pv_sum (S.2.2 l) m + j) (by omega) (by omega)
    have qe : H2 (A (l - 1) (pv_sum (S.2.2 l) m + j)) = H (A (l - 1) (pv_sum (S.2.2 l) m + j)) := by rw [o2 _ q2, o1 _ q2 q1]
    exact ⟨⟨w, qe.trans q3⟩, q1, (pv_lb_eq qe).trans q4⟩)
  obtain ⟨hc3, t4⟩ := hc.sg n3 ((t1.tr t2).tr t3).sg
  refine ⟨σ3, H3, _, _, ?_, hc3, cp_lend h hl hm (by omega) d3 (c2.mv (o3 _ (Ne.symm hne)) (fun _ _ _ => ⟨rfl, rfl⟩) (fun _ _ _ => rfl)) (fun y q1 q2 => by rw [o3 _ q1, o2 _ q2, o1 _ q2 q1]), t4, cp_w_fix.symm, cp_w_fix.symm⟩
  obtain ⟨sa, a1, -⟩ := id ca
  obtain ⟨sb, a2, -⟩ := id cb
  obtain ⟨s1, b1, -⟩ := id c1
  obtain ⟨s2, b2, -⟩ := id d2
  unfold b_X6_refill_92
  rw [if_neg (by simp), Option.bind_some, pv_g4 hc.1 a2, Option.bind_some, hc.g1, Option.bind_some, if_neg (nI_ge hz (by omega)), Option.bind_some, pv_g4 hc.1 a1, Option.bind_some, pv_ob hc.1 a2, Option.bind_some]
  rw [show (0 : Int32) = nI 0 from rfl, e1, Option.bind_some, pv_ob n1 b1, Option.bind_some, e2, Option.bind_some, pv_ob n2 b2, Option.bind_some, e3, Option.bind_some]
  rfl
theorem cf_join {pl : Nat} (hc : ct tr PO (F + 1) σ H F h0 r0 pth plc) (h : cp H A Lb S Ek Ev) (hl : l + 1 < S.1) (hF : F ≤ 5) (h6 : ∀ l, l + 1 < S.1 → pv_sum (S.2.2 (l + 1)) (S.2.1 (l + 1)) = S.2.1 l) (hm : m + 1 < S.2.1 l) (hup : up < S.2.1 (l + 1)) (hp : pv_sum (S.2.2 (l + 1)) up + pl = m) (hp2 : pl + 1 < S.2.2 (l + 1) up) (hpF : S.2.2 (l + 1) up ≤ F) (hz : S.2.2 l m + S.2.2 l (m + 1) ≤ F) :
    ∃ σ' H' w, f_X6_join tr (A (l + 1) up) (nI pl) σ = some σ' ∧ ct tr PO (F + 1) σ' H' F h0 r0 pth plc ∧ cp H' (va_up A l (pv_gd (A l) (m + 1))) (va_up Lb l (pv_gd (va_up (Lb l) m w) (m + 1))) (pv_jn S l m up) Ek Ev ∧ pv_sg PO σ σ' ∧ w = cp_w Ek Ev Lb l (pv_sum (S.2.2 l) m) (S.2.2 l m + S.2.2 l (m + 1)) w.1 := by
  have hr := cf_rng h6 (by omega : l < S.1) hm
  have hne : A l m ≠ A l (m + 1) := h.ne (by omega) (by omega) (by omega) hm (by omega)
  have ca := h.1 l m (by omega) (by omega)
  have cb := h.1 l (m + 1) (by omega) hm
  have cc := h.1 (l + 1) up hl hup
  have hpa : A (l + 1) up ≠ A l m := h.ne hl hup (by omega) (by omega) (by omega)
  have hpb : A (l + 1) up ≠ A l (m + 1) := h.ne hl hup (by omega) hm (by omega)
  have hch : 0 < l → ∀ x, pv_sum (S.2.2 l) m ≤ x → x < pv_sum (S.2.2 l) m + (S.2.2 l m + S.2.2 l (m + 1)) → A (l - 1) x ≠ A l m ∧ A (l - 1) x ≠ A l (m + 1) ∧ (∃ w, H (A (l - 1) x) = some w) ∧ pv_lb H (some (A (l - 1) x)) = Lb (l - 1) x := by
    intro hl0 x hx1 hx2
    have hx := hr hl0 (x - pv_sum (S.2.2 l) m) (by omega)
    rw [show pv_sum (S.2.2 l) m + (x - pv_sum (S.2.2 l) m) = x by omega] at hx
    obtain ⟨q1, q2, q3⟩ := h.ch hl0 (by omega) hx
    exact ⟨q1 _ (by omega), q1 _ hm, q2, q3⟩
  have hfs : pv_sum (S.2.2 l) (m + 1) = pv_sum (S.2.2 l) m + S.2.2 l m := rfl
  obtain ⟨σ1, H1, e1, n1, t1, o1, c1, d1⟩ := cp_tail hc.1 cb ca (i := 0) (Ne.symm hne) (by omega) (by omega) (by omega) (by omega) (fun hl0 j hj => (hch hl0 _ (by omega) (by omega)).2.2.1)
  rw [Nat.sub_zero] at d1
  obtain ⟨σ2, H2, e2, n2, t2, o2, d2⟩ := cp_renew (Lb := Lb) n1 d1 (by omega) (fun hl0 j hj => by
    obtain ⟨q1, q2, ⟨w, q3⟩, q4⟩ := hch hl0 (pv_sum (S.2.2 l) m + j) (by omega) (by omega)
    have qe := o1 _ q2 q1
    exact ⟨⟨w, qe.trans q3⟩, q1, (pv_lb_eq qe).trans q4⟩)
  have p2 := cc.mv (H' := H2) (a' := A (l + 1) up) (A' := A) (Ek' := Ek) (Ev' := Ev) (f' := pv_sum (S.2.2 (l + 1)) up) (by rw [o2 _ hpa, o1 _ hpb hpa]) (fun _ _ _ => ⟨rfl, rfl⟩) (fun _ _ _ => rfl)
  have hin2 := cp_inn h6 hl hup
  obtain ⟨σ3, H3, e3, n3, t3, o3, p3⟩ := cp_cchild (q := pl + 1) (A' := va_up A l (pv_gd (A l) (m + 1))) n2 p2 (by omega) hp2 (fun _ j hj => by
    simp only [Nat.add_sub_cancel]
    have hx : pv_sum (S.2.2 (l + 1)) up + j < S.2.1 l := hin2 (by omega) j hj
    by_cases y1 : A l (pv_sum (S.2.2 (l + 1)) up + j) = A l m
    · rw [y1]; obtain ⟨s', q, -⟩ := d2; exact ⟨_, q⟩
    · rw [o2 _ y1]
      by_cases y2 : A l (pv_sum (S.2.2 (l + 1)) up + j) = A l (m + 1)
      · rw [y2]; obtain ⟨s', q, -⟩ := c1; exact ⟨_, q⟩
      · rw [o1 _ y2 y1]; exact h.kid (by omega) hx) (fun j hj => by
    rw [va_up_self]
    unfold pv_gd
    by_cases j1 : j < pl + 1
    · rw [if_pos j1, if_pos (by omega)]
    · rw [if_neg j1, if_neg (by omega)]; rfl)
  obtain ⟨hc3, t4⟩ := hc.sg n3 ((t1.tr t2).tr t3).sg
  refine ⟨σ3, H3, _, ?_, hc3, cp_join h hl hm hup (by omega) (by omega) (d2.mv (o3 _ (Ne.symm hpa)) (fun _ _ _ => ⟨rfl, rfl⟩) (fun _ _ _ => rfl)) p3 (fun y q1 q2 q3 => by rw [o3 _ q3, o2 _ q1, o1 _ q2 q1]), t4, cp_w_fix.symm⟩
  obtain ⟨sp, g1, -, g3⟩ := id cc
  obtain ⟨sb, a2, -⟩ := id cb
  obtain ⟨s1, b1, -⟩ := id d1
  obtain ⟨s2, b2, -⟩ := id p2
  have k1 := (g3 pl (by omega)).2 (by omega)
  have k2 := (g3 (pl + 1) (by omega)).2 (by omega)
  simp only [Nat.add_sub_cancel] at k1 k2
  rw [hp] at k1
  rw [← Nat.add_assoc, hp] at k2
  unfold f_X6_join
  rw [pv_r3 hc.1 g1, Option.bind_some, Option.bind_some, pv_a3 hc.1 g1 (by omega), Option.bind_some, Option.bind_some, Option.bind_some, nI_1, pv_a3 hc.1 g1 (by omega), Option.bind_some, k1, Option.bind_some, k2, Option.bind_some, pv_ob hc.1 a2, Option.bind_some]
  rw [show (0 : Int32) = nI 0 from rfl, e1, Option.bind_some, pv_ob n1 b1, Option.bind_some, e2, Option.bind_some, pv_ob n2 b2, Option.bind_some, e3, Option.bind_some]
theorem cf_refill {k : Nat} {kk : Nat → Nat} {c : Nat} (hc : ct tr PO (F + 1) σ H F h0 r0 pth plc) (h : cp H A Lb S Ek Ev) (hw : pv_wfy F S c l k) (hl : l + 1 < S.1) (hk : k < S.2.1 l) (hz : ¬ (F + 1) / 2 ≤ S.2.2 l k) (hup : kk (l + 1) < S.2.1 (l + 1)) (h1 : pv_sum (S.2.2 (l + 1)) (kk (l + 1)) ≤ k) (h2 : k < pv_sum (S.2.2 (l + 1)) (kk (l + 1)) + S.2.2 (l + 1) (kk (l + 1))) (hlc : cp_ll S Ek Ev Lb kk (l + 1)) :
    ∃ σ' H' A' Lb', f_X6_refill tr (A (l + 1) (kk (l + 1))) (nI (k - pv_sum (S.2.2 (l + 1)) (kk (l + 1)))) σ = some σ' ∧ ct tr PO (F + 1) σ' H' F h0 r0 pth plc ∧ cp H' A' Lb' (pv_st1 ((F + 1) / 2) S l k (kk (l + 1))).2 Ek Ev ∧ pv_sg PO σ σ' ∧ cp_ll (pv_st1 ((F + 1) / 2) S l k (kk (l + 1))).2 Ek Ev Lb' kk (l + 1) ∧ ∀ i, l + 1 ≤ i → A' i = A i := by
  obtain ⟨f1, f2, f3, f4, f5, f6, f7, f8, f9⟩ := id hw
  have hpl : k - pv_sum (S.2.2 (l + 1)) (kk (l + 1)) < S.2.2 (l + 1) (kk (l + 1)) := by omega
  have hpF := f8 (l + 1) _ hl hup
  have hp2 := hw.par2 hl hup
  have hkF := f8 l k (by omega) hk
  have hend : pv_sum (S.2.2 (l + 1)) (kk (l + 1)) + S.2.2 (l + 1) (kk (l + 1)) ≤ S.2.1 l := by
    have := cp_inn f6 hl hup (by omega) (S.2.2 (l + 1) (kk (l + 1)) - 1) (by omega)
    simp only [Nat.add_sub_cancel] at this; omega
  rw [cf_open hc h hl f2 hup hpl hpF, show pv_sum (S.2.2 (l + 1)) (kk (l + 1)) + (k - pv_sum (S.2.2 (l + 1)) (kk (l + 1))) = k by omega]
  generalize hple : k - pv_sum (S.2.2 (l + 1)) (kk (l + 1)) = pl at *
  by_cases q1 : 0 < pl ∧ (F + 1) / 2 < S.2.2 l (k - 1)
  · obtain ⟨m, rfl⟩ : ∃ m, k = m + 1 := ⟨k - 1, by omega⟩
    simp only [Nat.add_sub_cancel] at q1 ⊢
    have est : (pv_st1 ((F + 1) / 2) S l (m + 1) (kk (l + 1))).2 = pv_ln S l m (S.2.2 l m - 1) (S.2.2 l (m + 1) + 1) := by
      unfold pv_st1
      simp only [Nat.add_sub_cancel]
      rw [hple, if_pos q1]
      exact pv_set_set
    rw [est, if_pos q1.1]
    obtain ⟨σ', H', w1, w2, e, c1, p1, t1, hw1, hw2⟩ := cf_left hc h (by omega) f2 f6 hk q1.2 (f8 l m (by omega) (by omega)) hkF (A (l + 1) (kk (l + 1))) (nI pl) (if pl + 1 < S.2.2 (l + 1) (kk (l + 1)) then some (A l (m + 1 + 1)) else none)
    exact ⟨σ', H', A, _, e, c1, p1, t1, cp_lend_lc hl (by omega) (by omega) (by omega) hw1 hw2 hlc, fun _ _ => rfl⟩
  · by_cases q2 : pl + 1 < S.2.2 (l + 1) (kk (l + 1)) ∧ (F + 1) / 2 < S.2.2 l (k + 1)
    · have est : (pv_st1 ((F + 1) / 2) S l k (kk (l + 1))).2 = pv_ln S l k (S.2.2 l k + 1) (S.2.2 l (k + 1) - 1) := by
        unfold pv_st1
        rw [hple, if_neg q1, if_pos q2]
        refine pv_set_set.trans ?_
        rw [va_up_comm (by omega)]
      rw [est, if_pos q2.1]
      obtain ⟨σ', H', w1, w2, e, c1, p1, t1, hw1, hw2⟩ := cf_right hc h (m := k) (by omega) f2 f6 (by omega) q2.2 hkF (f8 l (k + 1) (by omega) (by omega)) (A (l + 1) (kk (l + 1))) (nI pl) (if 0 < pl then some (A l (k - 1)) else none)
      refine ⟨σ', H', A, _, ?_, c1, p1, t1, cp_lend_lc hl (by omega) (by omega) (by omega) hw1 hw2 hlc, fun _ _ => rfl⟩
      unfold b_X6_refill_47
      by_cases q0 : 0 < pl
      · obtain ⟨sb, a2, -⟩ := h.1 l (k - 1) (by omega) (by omega)
        rw [if_pos q0] at e ⊢
        rw [if_neg (by simp), Option.bind_some, pv_g4 hc.1 a2, Option.bind_some, hc.g1, Option.bind_some, if_pos (nI_le (by omega) (by omega))]
        exact e
      · rw [if_neg q0] at e ⊢
        rw [if_pos rfl]; exact e
    · -- joined
      have h47 : b_X6_refill_47 tr (A (l + 1) (kk (l + 1))) (nI pl) (some (A l k)) (if 0 < pl then some (A l (k - 1)) else none) (if pl + 1 < S.2.2 (l + 1) (kk (l + 1)) then some (A l (k + 1)) else none) σ = b_X6_refill_132 tr (A (l + 1) (kk (l + 1))) (nI pl) (if 0 < pl then some (A l (k - 1)) else none) (if pl + 1 < S.2.2 (l + 1) (kk (l + 1)) then some (A l (k + 1)) else none) σ := by
        have h92 : ∀ v4, b_X6_refill_92 tr (A (l + 1) (kk (l + 1))) (nI pl) (some (A l k)) v4 (if pl + 1 < S.2.2 (l + 1) (kk (l + 1)) then some (A l (k + 1)) else none) σ = b_X6_refill_132 tr (A (l + 1) (kk (l + 1))) (nI pl) v4 (if pl + 1 < S.2.2 (l + 1) (kk (l + 1)) then some (A l (k + 1)) else none) σ := by
          intro v4
          unfold b_X6_refill_92
          by_cases q3 : pl + 1 < S.2.2 (l + 1) (kk (l + 1))
          · obtain ⟨sb, a2, -⟩ := h.1 l (k + 1) (by omega) (by omega)
            have := f8 l (k + 1) (by omega) (by omega)
            rw [if_pos q3, if_neg (by simp), Option.bind_some, pv_g4 hc.1 a2, Option.bind_some, hc.g1, Option.bind_some, if_pos (nI_le (by omega) (by omega))]
          · rw [if_neg q3, if_pos rfl]
        unfold b_X6_refill_47
        by_cases q0 : 0 < pl
        · obtain ⟨sb, a2, -⟩ := h.1 l (k - 1) (by omega) (by omega)
          rw [if_pos q0, if_neg (by simp), Option.bind_some, pv_g4 hc.1 a2, Option.bind_some, hc.g1, Option.bind_some, if_pos (nI_le (by omega) (by omega)), h92]
        · rw [if_neg q0, if_pos rfl, h92]
      rw [h47]
      have est : ∀ t, t = (if 0 < pl then k - 1 else k) → (pv_st1 ((F + 1) / 2) S l k (kk (l + 1))).2 = pv_jn S l t (kk (l + 1)) := by
        intro t ht
        unfold pv_st1
        rw [hple, if_neg q1, if_neg q2, ← ht]
      have hfin : ∀ t pt, t = (if 0 < pl then k - 1 else k) → pv_sum (S.2.2 (l + 1)) (kk (l + 1)) + pt = t → pt + 1 < S.2.2 (l + 1) (kk (l + 1)) → S.2.2 l t + S.2.2 l (t + 1) ≤ F → b_X6_refill_132 tr (A (l + 1) (kk (l + 1))) (nI pl) (if 0 < pl then some (A l (k - 1)) else none) (if pl + 1 < S.2.2 (l + 1) (kk (l + 1)) then some (A l (k + 1)) else none) σ = f_X6_join tr (A (l + 1) (kk (l + 1))) (nI pt) σ → ∃ σ' H' A' Lb', b_X6_refill_132 tr (A (l + 1) (kk (l + 1))) (nI pl) (if 0 < pl then some (A l (k - 1)) else none) (if pl + 1 < S.2.2 (l + 1) (kk (l + 1)) then some (A l (k + 1)) else none) σ = some σ' ∧ ct tr PO (F + 1) σ' H' F h0 r0 pth plc ∧ cp H' A' Lb' (pv_st1 ((F + 1) / 2) S l k (kk (l + 1))).2 Ek Ev ∧ pv_sg PO σ σ' ∧ cp_ll (pv_st1 ((F + 1) / 2) S l k (kk (l + 1))).2 Ek Ev Lb' kk (l + 1) ∧ ∀ i, l + 1 ≤ i → A' i = A i := by
        intro t pt ht hpt hpt2 hzz he
        obtain ⟨σ', H', w, e, c1, p1, t1, hw1⟩ := cf_join (m := t) (pl := pt) hc h hl f2 f6 (by omega) hup hpt hpt2 hpF hzz
        rw [est t ht]
        exact ⟨σ', H', _, _, he.trans e, c1, p1, t1, cp_join_lc hl (by omega) (by omega) (by omega) hw1 hlc, fun i hi => va_up_ne _ _ (by omega)⟩
      by_cases q0 : 0 < pl
      · have hzb := f8 l (k - 1) (by omega) (by omega)
        have hzk : S.2.2 l (k - 1) ≤ (F + 1) / 2 := by omega
        refine hfin (k - 1) (pl - 1) (by rw [if_pos q0]) (by omega) (by omega) (by rw [show k - 1 + 1 = k by omega]; omega) ?_
        unfold b_X6_refill_132
        rw [if_pos q0, if_neg (by simp), hc.ob, Option.bind_some]
        rw [show nI pl - 1 = nI (pl - 1) by
          obtain ⟨q, hq⟩ : ∃ q, pl = q + 1 := ⟨pl - 1, by omega⟩
          rw [hq, nI_pred]; rfl]
        cases f_X6_join tr (A (l + 1) (kk (l + 1))) (nI (pl - 1)) σ <;> rfl
      · have q3 : pl + 1 < S.2.2 (l + 1) (kk (l + 1)) := by omega
        have hzb := f8 l (k + 1) (by omega) (by omega)
        refine hfin k pl (by rw [if_neg q0]) (by omega) q3 (by omega) ?_
        unfold b_X6_refill_132
        rw [if_neg q0, if_pos rfl, if_pos q3, if_neg (by simp), hc.ob, Option.bind_some]
        cases f_X6_join tr (A (l + 1) (kk (l + 1))) (nI pl) σ <;> rfl
end CF
