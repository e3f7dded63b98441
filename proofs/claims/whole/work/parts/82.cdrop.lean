/-! THE CLASS'S remove -/
theorem st1_1 {low l k up : Nat} {S : pv_Sh} : (pv_st1 low S l k up).2.1 = S.1 := by
  unfold pv_st1
  split
  · rfl
  · split <;> rfl
theorem st1_C {low l k up i : Nat} {S : pv_Sh} (hi : l + 1 ≤ i) : (pv_st1 low S l k up).2.2.1 i = S.2.1 i := by
  unfold pv_st1
  split
  · rfl
  · split
    · rfl
    · exact va_up_ne _ _ (by omega)
theorem st1_Z {low l k up i : Nat} {S : pv_Sh} (hi : l + 2 ≤ i) : (pv_st1 low S l k up).2.2.2 i = S.2.2 i := by
  unfold pv_st1
  split
  · rw [pv_set_set]; exact va_up_ne _ _ (by omega)
  · split
    · rw [pv_set_set]; exact va_up_ne _ _ (by omega)
    · show va_up (va_up _ l _) (l + 1) _ i = _
      rw [va_up_ne _ _ (by omega), va_up_ne _ _ (by omega)]
theorem pv_wf.y {F : Nat} {S : pv_Sh} {c : Nat} (h : pv_wf F S c) (x y : Nat) : pv_wfy F S c x y := ⟨h.1, h.2.1, h.2.2.1, h.2.2.2.1, h.2.2.2.2.1, h.2.2.2.2.2.1, fun l k a b => Or.inl (h.2.2.2.2.2.2.1 l k a b), h.2.2.2.2.2.2.2.1, fun q => Or.inl (h.2.2.2.2.2.2.2.2 q)⟩
theorem pv_stl_id {F f l k c : Nat} {S : pv_Sh} (h : pv_wf F S c) (hk : l < S.1 → k < S.2.1 l) : pv_stl ((F + 1) / 2) f S l k = S := by
  cases f with
  | zero => rfl
  | succ f =>
    rw [pv_stl]
    by_cases q : S.1 ≤ l + 1
    · rw [if_pos q]
    · rw [if_neg q, if_pos (h.2.2.2.2.2.2.1 l k (by omega) (hk (by omega)))]
theorem pv_top_le : ∀ (f : Nat) (S : pv_Sh), (pv_top f S).1 ≤ S.1 := by
  intro f
  induction f with
  | zero => intro S; exact Nat.le_refl _
  | succ f ih =>
    intro S
    rw [pv_top]
    split
    · have := ih (S.1 - 1, S.2.1, S.2.2); exact Nat.le_trans this (Nat.sub_le _ _)
    · exact Nat.le_refl _
section CD
variable {tr : Nat} {PO : Nat → Prop} {F c : Nat} {Ek Ev : Nat → Int32} {pth : Nat → Option Nat} {plc : Nat → Int32} {kk : Nat → Nat}
theorem cd_loop (hc : c ≤ 61) : ∀ (d l fuel : Nat) {S : pv_Sh} {A : Nat → Nat → Nat} {Lb : cp_L} {H : pv_H} {σ : sw_S}, l + d + 1 = S.1 → S.1 ≤ 5 → d < fuel → cx tr PO σ H F A Lb S Ek Ev pth plc → pv_wfy F S c l (kk l) → cp_wy S kk l → cx_p S A kk pth plc l → cp_ll S Ek Ev Lb kk l →
    ∃ σ' H' A' Lb', b_X6_refillUpwards_7 fuel tr (nI d) σ = some σ' ∧ cx tr PO σ' H' F A' Lb' (pv_top 3 (pv_stl ((F + 1) / 2) (d + 1) S l (kk l))) Ek Ev pth plc ∧ pv_sg PO σ σ' ∧ cp_la (pv_top 3 (pv_stl ((F + 1) / 2) (d + 1) S l (kk l))) Ek Ev Lb' := by
  intro d
  induction d with
  | zero =>
    intro l fuel S A Lb H σ hd hS5 hf h hw hy hp hlc
    obtain ⟨f, rfl⟩ : ∃ f, fuel = f + 1 := ⟨fuel - 1, by omega⟩
    have hkl := hy.1 l (Nat.le_refl _) (by omega)
    obtain ⟨f1, f2, f3, f4, f5, f6, f7, f8, f9⟩ := id hw
    have hl1 : S.1 - 1 = l := by omega
    rw [hl1] at f4
    have hk0 : kk l = 0 := by omega
    have es : pv_stl ((F + 1) / 2) (0 + 1) S l (kk l) = S := by rw [pv_stl, if_pos (by omega)]
    have hwr := pv_stl_wf 1 hw (by omega) hkl (by omega)
    rw [show (1 : Nat) = 0 + 1 from rfl, es] at hwr
    obtain ⟨hwt, hto⟩ := pv_top_wf hwr 3 (by omega)
    rw [es]
    have hz : S.2.2 l 0 ≤ F := f8 l 0 (by omega) (by omega)
    have hin := cp_inn f6 (l := l) (k := 0) (by omega) (by omega)
    obtain ⟨σ1, H1, e1, h1, t1⟩ := cx_renew h (l := l) (k := 0) (by omega) (by omega) (by omega) hin
    have hl2 := cp_lcr hy hlc
    rw [hk0] at hl2
    obtain ⟨s, a1, -⟩ := h.2.1 l 0 (by omega) (by omega)
    obtain ⟨s1, b1, -, b3⟩ := h1.2.1 l 0 (by omega) (by omega)
    have hr := h.1.r4
    have hr1 := h1.1.r4
    rw [hl1] at hr hr1
    have hla : cp_la S Ek Ev (cp_u Lb l 0 (cp_w Ek Ev Lb l (pv_sum (S.2.2 l) 0) (S.2.2 l 0) (Lb l 0).1)) := fun l' k' q1 q2 => hl2 l' k' q1 q2 (by omega)
    by_cases q : 1 < S.1 ∧ S.2.2 (S.1 - 1) 0 = 1
    · have et : pv_top 3 S = (S.1 - 1, S.2.1, S.2.2) := by
        rcases hto with r | ⟨-, -, r⟩
        · have h3 := pv_top_le 2 (S.1 - 1, S.2.1, S.2.2)
          have h4 : pv_top 3 S = pv_top 2 (S.1 - 1, S.2.1, S.2.2) := by rw [pv_top, if_pos q]
          rw [← h4, r] at h3
          simp only at h3; omega
        · exact r
      rw [et]
      have q2 := q.2
      rw [hl1] at q2
      have hch := (b3 0 (by omega)).2 (by omega)
      have hch' : (s1 0).2.2 = some (A (l - 1) 0) := hch
      obtain ⟨σ2, e2, c2, t2⟩ := h1.1.sroot (A (l - 1) 0)
      obtain ⟨σ3, e3, c3, t3⟩ := c2.sh (S.1 - 1)
      refine ⟨σ3, H1, A, _, ?_, ⟨?_, fun l' k' r1 r2 => h1.2.1 l' k' (by have r1' : l' < S.1 - 1 := r1; omega) r2, fun l1 k1 l2 k2 r1 r2 r3 r4 => h1.2.2 l1 k1 l2 k2 (by have r1' : l1 < S.1 - 1 := r1; omega) r2 (by have r3' : l2 < S.1 - 1 := r3; omega) r4⟩, (t1.tr t2).tr t3, fun l' k' r1 r2 => hla l' k' (by have r1' : l' < S.1 - 1 := r1; omega) r2⟩
      · show B_X6_refillUpwards_7 _ _ _ _ = _
        unfold B_X6_refillUpwards_7
        rw [if_pos (by decide), hr, Option.bind_some, Option.bind_some, pv_ob h.1.1 a1, Option.bind_some, e1, Option.bind_some, hr1, Option.bind_some, Option.bind_some, pv_g0 h1.1.1 b1, Option.bind_some, if_neg (show ¬ l = 0 by omega), if_pos rfl, Option.bind_some, Option.bind_some, pv_g4 h1.1.1 b1, Option.bind_some, q2, if_pos (by decide), Option.bind_some, Option.bind_some, pv_r3 h1.1.1 b1, Option.bind_some, Option.bind_some]
        rw [show (0 : Int32) = nI 0 from rfl, pv_a3 h1.1.1 b1 (by omega), Option.bind_some, hch', e2, Option.bind_some, c2.g5, Option.bind_some]
        rw [show nI S.1 - 1 = nI (S.1 - 1) by
          obtain ⟨q, hq⟩ : ∃ q, S.1 = q + 1 := ⟨S.1 - 1, by omega⟩
          rw [hq, nI_pred]; rfl]
        rw [e3, Option.bind_some]; rfl
      · show ct tr PO (F + 1) σ3 H1 F (S.1 - 1) (A (S.1 - 1 - 1) 0) pth plc
        rw [hl1]
        rw [hl1] at c3
        exact c3
    · have et : pv_top 3 S = S := by rw [pv_top, if_neg q]
      rw [et]
      refine ⟨σ1, H1, A, _, ?_, h1, t1, hla⟩
      show B_X6_refillUpwards_7 _ _ _ _ = _
      unfold B_X6_refillUpwards_7
      rw [if_pos (by decide), hr, Option.bind_some, Option.bind_some, pv_ob h.1.1 a1, Option.bind_some, e1, Option.bind_some, hr1, Option.bind_some, Option.bind_some, pv_g0 h1.1.1 b1, Option.bind_some]
      by_cases q3 : l = 0
      · rw [if_pos q3, if_neg (by decide)]; rfl
      · rw [if_neg q3, if_pos rfl, Option.bind_some, Option.bind_some, pv_g4 h1.1.1 b1, Option.bind_some, if_neg]
        · rfl
        · intro q4
          have q5 : S.2.2 l 0 = 1 := (nI_eq (by omega) (by omega)).mp (show nI (S.2.2 l 0) = nI 1 from q4)
          exact q ⟨by omega, by rw [hl1]; exact q5⟩
  | succ d ih =>
    intro l fuel S A Lb H σ hd hS5 hf h hw hy hp hlc
    obtain ⟨f, rfl⟩ : ∃ f, fuel = f + 1 := ⟨fuel - 1, by omega⟩
    have hkl := hy.1 l (Nat.le_refl _) (by omega)
    have hku := hy.1 (l + 1) (by omega) (by omega)
    obtain ⟨hs1, hs2⟩ := hy.2 l (Nat.le_refl _) (by omega)
    obtain ⟨f1, f2, f3, f4, f5, f6, f7, f8, f9⟩ := id hw
    have hz : S.2.2 l (kk l) ≤ F := f8 l (kk l) (by omega) hkl
    have hin := cp_inn f6 (l := l) (k := kk l) (by omega) hkl
    obtain ⟨σ1, H1, e1, h1, t1⟩ := cx_renew h (l := l) (k := kk l) (by omega) hkl (by omega) hin
    have hl2 := cp_lcr hy hlc
    obtain ⟨s, a1, -⟩ := h.2.1 l (kk l) (by omega) hkl
    obtain ⟨s1, b1, -⟩ := h1.2.1 l (kk l) (by omega) hkl
    have hpa : pth (d + 1) = some (A l (kk l)) := by have := hp.1 l (Nat.le_refl _) (by omega); rw [show S.1 - 1 - l = d + 1 by omega] at this; exact this
    have hpb : pth d = some (A (l + 1) (kk (l + 1))) := by have := hp.1 (l + 1) (by omega) (by omega); rw [show S.1 - 1 - (l + 1) = d by omega] at this; exact this
    have hpc : plc d = nI (kk l - pv_sum (S.2.2 (l + 1)) (kk (l + 1))) := by have := hp.2 l (Nat.le_refl _) (by omega); rw [show S.1 - 2 - l = d by omega] at this; exact this
    have hd0 : pv_hd S (l + 1) (kk l) = kk (l + 1) := pv_hd_eq hku hs1 hs2
    by_cases hzF : (F + 1) / 2 ≤ S.2.2 l (kk l)
    · have hwf := hw.wf hzF (by omega)
      obtain ⟨σ2, H2, A2, Lb2, e2, h2, t2, l2⟩ := ih (l + 1) f (by omega) hS5 (by omega) h1 (hwf.y _ _) ⟨fun i q => hy.1 i (by omega), fun i q => hy.2 i (by omega)⟩ ⟨fun i q => hp.1 i (by omega), fun i q => hp.2 i (by omega)⟩ hl2
      rw [pv_stl_id hwf (fun _ => hku)] at h2 l2
      rw [pv_stl_id hwf (fun _ => hkl)]
      refine ⟨σ2, H2, A2, Lb2, ?_, h2, t1.tr t2, l2⟩
      show B_X6_refillUpwards_7 _ _ _ _ = _
      unfold B_X6_refillUpwards_7
      rw [if_neg (nI_nle (by omega) (by omega)), h.1.r2, Option.bind_some, Option.bind_some, h.1.pa (by omega), hpa, Option.bind_some, Option.bind_some, pv_ob h.1.1 a1, Option.bind_some, e1, Option.bind_some, h1.1.r2, Option.bind_some, Option.bind_some, h1.1.pa (by omega), hpa, Option.bind_some, Option.bind_some, pv_g4 h1.1.1 b1, Option.bind_some, h1.1.g1, Option.bind_some, if_pos (nI_le hzF (by omega))]
      unfold b_X6_refillUpwards_56
      rw [pk_m1]
      exact e2
    · obtain ⟨σ3, H3, A3, Lb3, e3, c3, p3, t3, l3, hA3⟩ := cf_refill (l := l) (k := kk l) (kk := kk) h1.1 h1.2 hw (by omega) hkl hzF hku hs1 hs2 hl2
      have hst := hw.step (by omega) hkl hzF
      rw [hd0] at hst
      have hS1 : (pv_st1 ((F + 1) / 2) S l (kk l) (kk (l + 1))).2.1 = S.1 := st1_1
      have hx3 : cx tr PO σ3 H3 F A3 Lb3 (pv_st1 ((F + 1) / 2) S l (kk l) (kk (l + 1))).2 Ek Ev pth plc := by
        refine ⟨?_, p3⟩
        rw [hS1, hA3 (S.1 - 1) (by omega)]; exact c3
      have hw3 : pv_wfy F (pv_st1 ((F + 1) / 2) S l (kk l) (kk (l + 1))).2 c (l + 1) (kk (l + 1)) ∧ pv_stl ((F + 1) / 2) (d + 1 + 1) S l (kk l) = pv_stl ((F + 1) / 2) (d + 1) (pv_st1 ((F + 1) / 2) S l (kk l) (kk (l + 1))).2 (l + 1) (kk (l + 1)) := by
        have eu : pv_stl ((F + 1) / 2) (d + 1 + 1) S l (kk l) = if (pv_st1 ((F + 1) / 2) S l (kk l) (kk (l + 1))).1 = true then pv_stl ((F + 1) / 2) (d + 1) (pv_st1 ((F + 1) / 2) S l (kk l) (kk (l + 1))).2 (l + 1) (kk (l + 1)) else (pv_st1 ((F + 1) / 2) S l (kk l) (kk (l + 1))).2 := by
          rw [pv_stl, if_neg (by omega), if_neg hzF, hd0]
        rw [eu]
        by_cases r : (pv_st1 ((F + 1) / 2) S l (kk l) (kk (l + 1))).1 = true
        · rw [if_pos r] at hst ⊢
          exact ⟨hst, rfl⟩
        · rw [if_neg r] at hst ⊢
          exact ⟨hst.y _ _, (pv_stl_id hst (fun _ => by rw [st1_C (Nat.le_refl _)]; exact hku)).symm⟩
      obtain ⟨σ4, H4, A4, Lb4, e4, h4, t4, l4⟩ := ih (l + 1) f (by rw [hS1]; omega) (by rw [hS1]; exact hS5) (by omega) hx3 hw3.1 ⟨fun i q q2 => by rw [hS1] at q2; rw [st1_C q]; exact hy.1 i (by omega) q2, fun i q q2 => by rw [hS1] at q2; rw [st1_Z (by omega)]; exact hy.2 i (by omega) q2⟩ ⟨fun i q q2 => by rw [hS1] at q2 ⊢; rw [hA3 i q]; exact hp.1 i (by omega) q2, fun i q q2 => by rw [hS1] at q2 ⊢; rw [st1_Z (by omega)]; exact hp.2 i (by omega) q2⟩ l3
      rw [hw3.2]
      refine ⟨σ4, H4, A4, Lb4, ?_, h4, (t1.tr t3).tr t4, l4⟩
      show B_X6_refillUpwards_7 _ _ _ _ = _
      unfold B_X6_refillUpwards_7
      rw [if_neg (nI_nle (by omega) (by omega)), h.1.r2, Option.bind_some, Option.bind_some, h.1.pa (by omega), hpa, Option.bind_some, Option.bind_some, pv_ob h.1.1 a1, Option.bind_some, e1, Option.bind_some, h1.1.r2, Option.bind_some, Option.bind_some, h1.1.pa (by omega), hpa, Option.bind_some, Option.bind_some, pv_g4 h1.1.1 b1, Option.bind_some, h1.1.g1, Option.bind_some, if_neg (nI_ge (by omega) (by omega)), Option.bind_some, Option.bind_some, nI_pred, h1.1.pa (by omega), hpb, Option.bind_some, h1.1.r3, Option.bind_some, Option.bind_some, h1.1.pl (by omega), hpc, Option.bind_some, Option.bind_some, h1.1.ob, Option.bind_some, e3, Option.bind_some]
      unfold b_X6_refillUpwards_56
      rw [pk_m1]
      exact e4
end CD
section CE
variable {tr : Nat} {PO : Nat → Prop} {F c : Nat} {S : pv_Sh} {Ek Ev : Nat → Int32} {σ : sw_S} {key : Int32}
theorem cz_rem_no (h : cz tr PO σ F S Ek Ev) (hw : pv_wf F S c) (hc : c ≤ 60) (hso : ∀ i j, i < j → j < c → Ek i < Ek j) (hf : pv_fd Ek c key = none) :
    ∃ σ', f_X6_drop tr key σ = some (0, σ') ∧ cz tr PO σ' F S Ek Ev ∧ pv_sg PO σ σ' := by
  obtain ⟨H, A, Lb, pth, plc, h1, h2⟩ := h
  have hlab := h2.lab hw (by omega)
  obtain ⟨σ1, pth1, plc1, kk, e1, c1, t1, y1, -⟩ := cw_leafFor hw ((hw.x 0 0).cnt (by omega)).1 (fun l hl k hk => (hlab l hl k hk).1) key h1
  have hk := y1.1 0 (Nat.le_refl _) hw.2.2.1
  obtain ⟨s, g1, -, g3⟩ := c1.2.1 0 (kk 0) hw.2.2.1 hk
  have hz := hw.2.2.2.2.2.2.2.1 0 (kk 0) hw.2.2.1 hk
  obtain ⟨a1, a2, a3⟩ := cw_at hw hso y1 (s := s) (fun j hj => by rw [(g3 j hj).1 rfl])
  rcases a3 with ⟨-, -, b3, -⟩ | ⟨b1, -, -, -⟩
  · rw [b3] at hf; cases hf
  refine ⟨σ1, ?_, ⟨H, A, Lb, pth1, plc1, c1, h2⟩, t1⟩
  unfold f_X6_drop
  rw [h1.1.ob, Option.bind_some, e1, cw_b2, Option.bind_some, pv_ob c1.1.1 g1, Option.bind_some, pv_slotOf c1.1.1 g1 (by omega), Option.bind_some, Option.bind_some, pv_hasAt c1.1.1 g1 (by omega) a2, Option.bind_some, if_neg b1, if_pos rfl]
theorem cz_rem_yes {p : Nat} (h : cz tr PO σ F S Ek Ev) (hw : pv_wf F S c) (hc : c ≤ 60) (hso : ∀ i j, i < j → j < c → Ek i < Ek j) (hf : pv_fd Ek c key = some p) :
    ∃ σ', f_X6_drop tr key σ = some (1, σ') ∧ cz tr PO σ' F (pv_rem F S (pv_hd S 0 p)) (pv_ed Ek p) (pv_ed Ev p) ∧ pv_sg PO σ σ' := by
  obtain ⟨H, A, Lb, pth, plc, h1, h2⟩ := h
  have hlab := h2.lab hw (by omega)
  have hS5 := ((hw.x 0 0).cnt (by omega)).1
  obtain ⟨σ1, pth1, plc1, kk, e1, c1, t1, y1, p1⟩ := cw_leafFor hw hS5 (fun l hl k hk => (hlab l hl k hk).1) key h1
  have h0 : 0 < S.1 := hw.2.2.1
  have hk := y1.1 0 (Nat.le_refl _) h0
  obtain ⟨s, g1, g4, g3⟩ := c1.2.1 0 (kk 0) h0 hk
  have hz := hw.2.2.2.2.2.2.2.1 0 (kk 0) h0 hk
  obtain ⟨a1, a2, a3⟩ := cw_at hw hso y1 (s := s) (fun j hj => by rw [(g3 j hj).1 rfl])
  replace a3 := a3.resolve_right (fun r => by rw [r.2.1] at hf; cases hf)
  obtain ⟨b1, b2, b3, b4⟩ := a3
  have q : pv_slotF s key (S.2.2 0 (kk 0)) 0 < S.2.2 0 (kk 0) ∧ (s (pv_slotF s key (S.2.2 0 (kk 0)) 0)).1 = key := ⟨b1, by rw [(g3 _ b1).1 rfl]; exact b2⟩
  rw [b3] at hf
  cases hf
  rw [b4]
  generalize hq0 : pv_slotF s key (S.2.2 0 (kk 0)) 0 = q0 at *
  obtain ⟨σ4, H4, e4, n4, t4, o4, c4⟩ := cp_cleaf c1.1.1 (c1.2.1 0 (kk 0) h0 hk) (by omega) b1
  obtain ⟨d4, t4'⟩ := c1.1.st n4 t4
  have hS1 : (pv_set S 0 (kk 0) (S.2.2 0 (kk 0) - 1)).2.2 0 = va_up (S.2.2 0) (kk 0) (S.2.2 0 (kk 0) - 1) := by simp only [pv_set, va_up_self]
  have hSo : ∀ i, i ≠ 0 → (pv_set S 0 (kk 0) (S.2.2 0 (kk 0) - 1)).2.2 i = S.2.2 i := fun i hi => va_up_ne _ _ hi
  have hei : ∀ (E : Nat → Int32) k', k' < S.2.1 0 → k' ≠ kk 0 → ∀ j, j < S.2.2 0 k' → pv_ed E (pv_sum (S.2.2 0) (kk 0) + q0) (pv_sum ((pv_set S 0 (kk 0) (S.2.2 0 (kk 0) - 1)).2.2 0) k' + j) = E (pv_sum (S.2.2 0) k' + j) := by
    intro E k' hk' hne j hj
    rw [hS1]
    unfold pv_ed
    rcases Nat.lt_or_gt_of_ne hne with r | r
    · have := pv_bef (z := S.2.2 0) r hj (Nat.le_refl _)
      rw [pv_sum_up_le (by omega), if_pos (by omega)]
    · have h5 := pv_beh (z := S.2.2 0) (k := pv_sum (S.2.2 0) (kk 0) + q0) r (by omega)
      have h6 := pv_sum_mono (S.2.2 0) (kk 0 + 1) (k' - (kk 0 + 1))
      rw [show kk 0 + 1 + (k' - (kk 0 + 1)) = k' by omega] at h6
      simp only [pv_sum] at h6
      have h7 := pv_sum_up (z := S.2.2 0) (k := kk 0) (x := S.2.2 0 (kk 0) - 1) (c := k') r
      have h8 : pv_sum (va_up (S.2.2 0) (kk 0) (S.2.2 0 (kk 0) - 1)) k' = pv_sum (S.2.2 0) k' - 1 := by omega
      rw [h8, if_neg (by omega)]
      congr 1; omega
  have hcp : cp H4 A Lb (pv_set S 0 (kk 0) (S.2.2 0 (kk 0) - 1)) (pv_ed Ek (pv_sum (S.2.2 0) (kk 0) + q0)) (pv_ed Ev (pv_sum (S.2.2 0) (kk 0) + q0)) := by
    refine ⟨fun l' k' hl' hk' => ?_, c1.2.2⟩
    have hl'' : l' < S.1 := hl'
    have hk'' : k' < S.2.1 l' := hk'
    by_cases r : l' = 0 ∧ k' = kk 0
    · obtain ⟨rfl, rfl⟩ := r
      rw [hS1, va_up_self, pv_sum_up_le (Nat.le_refl _)]; exact c4
    · by_cases r0 : l' = 0
      · subst r0
        have rk : k' ≠ kk 0 := fun r' => r ⟨rfl, r'⟩
        have := (c1.2.1 0 k' hl'' hk'').mv (H' := H4) (a' := A 0 k') (A' := A) (Ek' := pv_ed Ek (pv_sum (S.2.2 0) (kk 0) + q0)) (Ev' := pv_ed Ev (pv_sum (S.2.2 0) (kk 0) + q0)) (f' := pv_sum ((pv_set S 0 (kk 0) (S.2.2 0 (kk 0) - 1)).2.2 0) k') (o4 _ (c1.2.ne hl'' hk'' h0 hk r)) (fun _ j hj => ⟨hei Ek k' hk'' rk j hj, hei Ev k' hk'' rk j hj⟩) (fun r0 => absurd r0 (by omega))
        rw [show (pv_set S 0 (kk 0) (S.2.2 0 (kk 0) - 1)).2.2 0 k' = S.2.2 0 k' by rw [hS1, va_up_ne _ _ rk]]
        exact this
      · rw [hSo l' r0]
        exact (c1.2.1 l' k' hl'' hk'').mv (o4 _ (c1.2.ne hl'' hk'' h0 hk r)) (fun r0' => absurd r0' r0) (fun _ _ _ => rfl)
  have hll : cp_ll (pv_set S 0 (kk 0) (S.2.2 0 (kk 0) - 1)) (pv_ed Ek (pv_sum (S.2.2 0) (kk 0) + q0)) (pv_ed Ev (pv_sum (S.2.2 0) (kk 0) + q0)) Lb kk 0 := by
    intro l' k' hl' hk' hne
    have hl'' : l' < S.1 := hl'
    have hk'' : k' < S.2.1 l' := hk'
    have := h2 l' k' hl'' hk''
    unfold cp_lc at this ⊢
    by_cases r0 : l' = 0
    · subst r0
      have rk : k' ≠ kk 0 := fun r' => hne ⟨Nat.le_refl _, r'⟩
      rw [show (pv_set S 0 (kk 0) (S.2.2 0 (kk 0) - 1)).2.2 0 k' = S.2.2 0 k' by rw [hS1, va_up_ne _ _ rk]]
      rw [cp_w_mv (Ek := Ek) (Ev := Ev) (Lb := Lb) (f := pv_sum (S.2.2 0) k') (fun _ j hj => ⟨hei Ek k' hk'' rk j hj, hei Ev k' hk'' rk j hj⟩) (fun r0 => absurd r0 (by omega))]
      exact this
    · rw [hSo l' r0, cp_w_mv (Ek := Ek) (Ev := Ev) (Lb := Lb) (f := pv_sum (S.2.2 l') k') (fun r0' => absurd r0' r0) (fun _ _ _ => rfl)]
      exact this
  obtain ⟨σ5, H5, A5, Lb5, e5, c5, t5, l5⟩ := cd_loop (c := c - 1) (by omega) (S.1 - 1) 0 1000 (S := pv_set S 0 (kk 0) (S.2.2 0 (kk 0) - 1)) (by show 0 + (S.1 - 1) + 1 = S.1; omega) hS5 (by omega) ⟨d4, hcp⟩ (hw.drop hk (by omega)) ⟨y1.1, fun i q q2 => by rw [hSo _ (by omega)]; exact y1.2.1 i q q2⟩ ⟨p1.1, fun i q q2 => by rw [hSo _ (by omega)]; exact p1.2 i q q2⟩ hll
  rw [show S.1 - 1 + 1 = S.1 by omega] at c5 l5
  refine ⟨σ5, ?_, ⟨H5, A5, Lb5, pth1, plc1, c5, l5⟩, (t1.tr t4').tr t5⟩
  unfold f_X6_drop
  rw [h1.1.ob, Option.bind_some, e1, cw_b2, Option.bind_some, pv_ob c1.1.1 g1, Option.bind_some, pv_slotOf c1.1.1 g1 (by omega), Option.bind_some, Option.bind_some, hq0, pv_hasAt c1.1.1 g1 (by omega) a2, Option.bind_some, if_pos q, if_neg (by decide : ¬ (1 : Int32) = 0), Option.bind_some, e4, Option.bind_some, d4.ob, Option.bind_some]
  unfold f_X6_refillUpwards
  rw [d4.g5, Option.bind_some]
  rw [show nI S.1 - 1 = nI (S.1 - 1) by
    obtain ⟨q, hq⟩ : ∃ q, S.1 = q + 1 := ⟨S.1 - 1, by omega⟩
    rw [hq, nI_pred]; rfl]
  rw [e5, Option.bind_some]
end CE
