/-! THE CLASS STORES -/
def cp_wy (S : pv_Sh) (kk : Nat → Nat) (l : Nat) : Prop := (∀ i, l ≤ i → i < S.1 → kk i < S.2.1 i) ∧ ∀ i, l ≤ i → i + 1 < S.1 → pv_sum (S.2.2 (i + 1)) (kk (i + 1)) ≤ kk i ∧ kk i < pv_sum (S.2.2 (i + 1)) (kk (i + 1)) + S.2.2 (i + 1) (kk (i + 1))
/-- all labels but those of the way from level l upwards -/
def cp_ll (S : pv_Sh) (Ek Ev : Nat → Int32) (Lb : cp_L) (kk : Nat → Nat) (l : Nat) : Prop := ∀ l' k', l' < S.1 → k' < S.2.1 l' → ¬ (l ≤ l' ∧ k' = kk l') → cp_lc S Ek Ev Lb l' k'
def cp_la (S : pv_Sh) (Ek Ev : Nat → Int32) (Lb : cp_L) : Prop := ∀ l' k', l' < S.1 → k' < S.2.1 l' → cp_lc S Ek Ev Lb l' k'
theorem cp_inn {S : pv_Sh} (h6 : ∀ l, l + 1 < S.1 → pv_sum (S.2.2 (l + 1)) (S.2.1 (l + 1)) = S.2.1 l) {l k : Nat} (hl : l < S.1) (hk : k < S.2.1 l) : cp_in S l k := by
  intro h0 j hj
  obtain ⟨q, rfl⟩ : ∃ q, l = q + 1 := ⟨l - 1, by omega⟩
  have := pv_sum_lt (z := S.2.2 (q + 1)) (c := S.2.1 (q + 1)) hk hj
  rw [h6 q hl] at this
  exact this
theorem cp_lcr {S : pv_Sh} {Ek Ev : Nat → Int32} {Lb : cp_L} {kk : Nat → Nat} {l : Nat} (hw : cp_wy S kk l) (h : cp_ll S Ek Ev Lb kk l) : cp_ll S Ek Ev (cp_u Lb l (kk l) (cp_w Ek Ev Lb l (pv_sum (S.2.2 l) (kk l)) (S.2.2 l (kk l)) (Lb l (kk l)).1)) kk (l + 1) := by
  intro l' k' hl' hk' hne
  by_cases q : l' = l ∧ k' = kk l
  · obtain ⟨rfl, rfl⟩ := q
    exact cp_lc_renew
  · refine cp_lc_keep (h l' k' hl' hk' (fun r => ?_)) q (fun r j hj => ?_)
    · rcases (show l' = l ∨ l + 1 ≤ l' by omega) with s | s
      · exact q ⟨s, by rw [r.2, s]⟩
      · exact hne ⟨s, r.2⟩
    · subst r
      obtain ⟨w1, w2⟩ := hw.2 l (Nat.le_refl _) hl'
      have hk2 : k' ≠ kk (l + 1) := fun r => hne ⟨Nat.le_refl _, r⟩
      rcases Nat.lt_or_gt_of_ne hk2 with s | s
      · have := pv_bef (z := S.2.2 (l + 1)) s hj w1; omega
      · have := pv_beh (z := S.2.2 (l + 1)) s w2; omega
section CZ
variable {tr : Nat} {PO : Nat → Prop} {F c : Nat} {Ek Ev : Nat → Int32} {pth : Nat → Option Nat} {plc : Nat → Int32} {kk : Nat → Nat}
theorem cs_loop (hc : c ≤ 61) : ∀ (d l fuel : Nat) {S : pv_Sh} {A : Nat → Nat → Nat} {Lb : cp_L} {H : pv_H} {σ : sw_S}, l + d + 1 = S.1 → d < fuel → cx tr PO σ H F A Lb S Ek Ev pth plc → pv_wfx F S c l (kk l) → cp_wy S kk l → cx_p S A kk pth plc l → cp_ll S Ek Ev Lb kk l →
    ∃ σ' H' A' Lb', b_X6_splitUpwards_7 fuel tr (nI d) σ = some σ' ∧ cx tr PO σ' H' F A' Lb' (pv_spl F (d + 1) S l (kk l)) Ek Ev pth plc ∧ pv_sg PO σ σ' ∧ cp_la (pv_spl F (d + 1) S l (kk l)) Ek Ev Lb' := by
  intro d
  induction d with
  | zero =>
    intro l fuel S A Lb H σ hd hf h hw hy hp hlc
    obtain ⟨f, rfl⟩ : ∃ f, fuel = f + 1 := ⟨fuel - 1, by omega⟩
    have hkl := hy.1 l (Nat.le_refl _) (by omega)
    obtain ⟨f1, f2, f3, f4, f5, f6, f7, f8, f9⟩ := id hw
    have hl1 : S.1 - 1 = l := by omega
    rw [hl1] at f4
    have hk0 : kk l = 0 := by omega
    have hz : S.2.2 l 0 ≤ F + 1 := by
      rcases f8 l 0 (by omega) (by omega) with q | ⟨-, -, q⟩ <;> omega
    have hin := cp_inn f6 (l := l) (k := 0) (by omega) (by omega)
    obtain ⟨σ1, H1, e1, h1, t1⟩ := cx_renew h (l := l) (k := 0) (by omega) (by omega) hz hin
    have hl2 := cp_lcr hy hlc
    rw [hk0] at hl2
    obtain ⟨s, a1, -⟩ := h.2.1 l 0 (by omega) (by omega)
    obtain ⟨s1, b1, -⟩ := h1.2.1 l 0 (by omega) (by omega)
    have hr := h.1.r4
    have hr1 := h1.1.r4
    rw [hl1] at hr hr1
    have hla : cp_la S Ek Ev (cp_u Lb l 0 (cp_w Ek Ev Lb l (pv_sum (S.2.2 l) 0) (S.2.2 l 0) (Lb l 0).1)) := fun l' k' q1 q2 => hl2 l' k' q1 q2 (by omega)
    rw [hk0]
    by_cases hzF : S.2.2 l 0 ≤ F
    · refine ⟨σ1, H1, A, _, ?_, by simp only [pv_spl, if_pos hzF]; exact h1, t1, by simp only [pv_spl, if_pos hzF]; exact hla⟩
      show B_X6_splitUpwards_7 _ _ _ _ = _
      unfold B_X6_splitUpwards_7
      rw [if_pos (by decide), hr, Option.bind_some, Option.bind_some, pv_ob h.1.1 a1, Option.bind_some, e1, Option.bind_some, hr1, Option.bind_some, Option.bind_some, pv_g4 h1.1.1 b1, Option.bind_some, h1.1.g0, Option.bind_some, if_pos (nI_le hzF (by omega))]; rfl
    · obtain ⟨σ2, H2, A2, Lb2, e2, h2, t2, l2⟩ := cu_grow (l := l) h1 (by omega) f4 (by omega) f1 f2 hin hla
      have es : pv_spl F (0 + 1) S l 0 = pv_grow (pv_sp1 F S l 0) := by
        simp only [pv_spl]; rw [if_neg hzF, if_pos (by omega)]
      rw [es]
      refine ⟨σ2, H2, A2, Lb2, ?_, h2, t1.tr t2, l2⟩
      show B_X6_splitUpwards_7 _ _ _ _ = _
      unfold B_X6_splitUpwards_7
      rw [if_pos (by decide), hr, Option.bind_some, Option.bind_some, pv_ob h.1.1 a1, Option.bind_some, e1, Option.bind_some, hr1, Option.bind_some, Option.bind_some, pv_g4 h1.1.1 b1, Option.bind_some, h1.1.g0, Option.bind_some, if_neg (nI_ge (by omega) (by omega)), h1.1.ob, Option.bind_some, e2, Option.bind_some]; rfl
  | succ d ih =>
    intro l fuel S A Lb H σ hd hf h hw hy hp hlc
    obtain ⟨f, rfl⟩ : ∃ f, fuel = f + 1 := ⟨fuel - 1, by omega⟩
    have hkl := hy.1 l (Nat.le_refl _) (by omega)
    have hku := hy.1 (l + 1) (by omega) (by omega)
    obtain ⟨hs1, hs2⟩ := hy.2 l (Nat.le_refl _) (by omega)
    obtain ⟨f1, f2, f3, f4, f5, f6, f7, f8, f9⟩ := id hw
    have hS5 := (hw.cnt hc).1
    have hz : S.2.2 l (kk l) ≤ F + 1 := by
      rcases f8 l (kk l) (by omega) hkl with q | ⟨-, -, q⟩ <;> omega
    have hzu : S.2.2 (l + 1) (kk (l + 1)) ≤ F := by
      rcases f8 (l + 1) (kk (l + 1)) (by omega) hku with q | ⟨q, -, -⟩
      · exact q
      · omega
    have hin := cp_inn f6 (l := l) (k := kk l) (by omega) hkl
    have hin2 := cp_inn f6 (l := l + 1) (k := kk (l + 1)) (by omega) hku
    obtain ⟨σ1, H1, e1, h1, t1⟩ := cx_renew h (l := l) (k := kk l) (by omega) hkl hz hin
    have hl2 := cp_lcr hy hlc
    obtain ⟨s, a1, -⟩ := h.2.1 l (kk l) (by omega) hkl
    have hpa : pth (d + 1) = some (A l (kk l)) := by have := hp.1 l (Nat.le_refl _) (by omega); rw [show S.1 - 1 - l = d + 1 by omega] at this; exact this
    have hpb : pth d = some (A (l + 1) (kk (l + 1))) := by have := hp.1 (l + 1) (by omega) (by omega); rw [show S.1 - 1 - (l + 1) = d by omega] at this; exact this
    have hpc : plc d = nI (kk l - pv_sum (S.2.2 (l + 1)) (kk (l + 1))) := by have := hp.2 l (Nat.le_refl _) (by omega); rw [show S.1 - 2 - l = d by omega] at this; exact this
    have hd0 : pv_hd S (l + 1) (kk l) = kk (l + 1) := pv_hd_eq hku hs1 hs2
    by_cases hzF : S.2.2 l (kk l) ≤ F
    · have hwf := hw.wf hzF
      obtain ⟨σ2, H2, A2, Lb2, e2, h2, t2, l2⟩ := ih (l + 1) f (by omega) (by omega) h1 (hwf.x _ _) ⟨fun i q => hy.1 i (by omega), fun i q => hy.2 i (by omega)⟩ ⟨fun i q => hp.1 i (by omega), fun i q => hp.2 i (by omega)⟩ hl2
      have es : pv_spl F (d + 1 + 1) S l (kk l) = S := by simp only [pv_spl]; rw [if_pos hzF]
      have es2 : pv_spl F (d + 1) S (l + 1) (kk (l + 1)) = S := by simp only [pv_spl]; rw [if_pos hzu]
      rw [es2] at h2 l2
      rw [es]
      refine ⟨σ2, H2, A2, Lb2, ?_, h2, t1.tr t2, l2⟩
      show B_X6_splitUpwards_7 _ _ _ _ = _
      unfold B_X6_splitUpwards_7
      rw [if_neg (nI_nle (by omega) (by omega)), h.1.r2, Option.bind_some, Option.bind_some, h.1.pa (by omega), hpa, Option.bind_some, Option.bind_some, pv_ob h.1.1 a1, Option.bind_some, e1, Option.bind_some, h1.1.r2, Option.bind_some, Option.bind_some, nI_pred, h1.1.pa (by omega), hpb, Option.bind_some, h1.1.r3, Option.bind_some, Option.bind_some, h1.1.pl (by omega), hpc, Option.bind_some, Option.bind_some, h1.1.ob, Option.bind_some, cu_no h1.1 h1.2 (by omega) hkl f2 hku hs1 hs2 hzu hzF, Option.bind_some, pk_m1]
      exact e2
    · obtain ⟨σ3, H3, b0, w1, w2, e3, c3, p3, t3, hw1, hw2⟩ := cu_yes h1.1 h1.2 (l := l) (k := kk l) (up := kk (l + 1)) (by omega) hkl f1 f2 hku hs1 hs2 hzu (by omega) hin hin2
      have l3 := cp_split_lc (kk := kk) (by omega : l + 1 < S.1) hkl (by omega : S.2.2 l (kk l) = F + 1) f1 hs1 hs2 hw1 hw2 rfl rfl (fun l' k' q1 q2 q3 => hl2 l' k' q1 q2 (fun r => q3 ⟨by omega, r.2⟩))
      have hwx := hw.split (by omega) hkl hzF
      rw [hd0] at hwx
      have es : pv_spl F (d + 1 + 1) S l (kk l) = pv_spl F (d + 1) (pv_sp2 F S l (kk l) (kk (l + 1))) (l + 1) (kk (l + 1)) := by
        rw [pv_spl]; rw [if_neg hzF, if_neg (by omega), hd0]
      rw [es]
      have hS1 : (pv_sp2 F S l (kk l) (kk (l + 1))).1 = S.1 := rfl
      have hA3 : ∀ i, l + 1 ≤ i → va_up A l (pv_gi (A l) (kk l + 1) b0) i = A i := fun i q => va_up_ne _ _ (by omega)
      have hx3 : cx tr PO σ3 H3 F (va_up A l (pv_gi (A l) (kk l + 1) b0)) (va_up (cp_u Lb l (kk l) (cp_w Ek Ev Lb l (pv_sum (S.2.2 l) (kk l)) (S.2.2 l (kk l)) (Lb l (kk l)).1)) l (pv_gi (va_up (cp_u Lb l (kk l) (cp_w Ek Ev Lb l (pv_sum (S.2.2 l) (kk l)) (S.2.2 l (kk l)) (Lb l (kk l)).1) l) (kk l) w1) (kk l + 1) w2)) (pv_sp2 F S l (kk l) (kk (l + 1))) Ek Ev pth plc := by
        refine ⟨?_, p3⟩
        rw [hS1, hA3 (S.1 - 1) (by omega)]; exact c3
      obtain ⟨σ4, H4, A4, Lb4, e4, h4, t4, l4⟩ := ih (l + 1) f (by rw [hS1]; omega) (by omega) hx3 hwx ⟨fun i q q2 => by rw [sp2_C, if_neg (by omega)]; exact hy.1 i (by omega) q2, fun i q q2 => by rw [sp2_Zo (by omega) (by omega)]; exact hy.2 i (by omega) q2⟩ ⟨fun i q q2 => by rw [hA3 i q]; exact hp.1 i (by omega) q2, fun i q q2 => by rw [sp2_Zo (by omega) (by omega)]; exact hp.2 i (by omega) q2⟩ l3
      refine ⟨σ4, H4, A4, Lb4, ?_, h4, (t1.tr t3).tr t4, l4⟩
      show B_X6_splitUpwards_7 _ _ _ _ = _
      unfold B_X6_splitUpwards_7
      rw [if_neg (nI_nle (by omega) (by omega)), h.1.r2, Option.bind_some, Option.bind_some, h.1.pa (by omega), hpa, Option.bind_some, Option.bind_some, pv_ob h.1.1 a1, Option.bind_some, e1, Option.bind_some, h1.1.r2, Option.bind_some, Option.bind_some, nI_pred, h1.1.pa (by omega), hpb, Option.bind_some, h1.1.r3, Option.bind_some, Option.bind_some, h1.1.pl (by omega), hpc, Option.bind_some, Option.bind_some, h1.1.ob, Option.bind_some, e3, Option.bind_some, pk_m1]
      exact e4
theorem cs_split {S : pv_Sh} {A : Nat → Nat → Nat} {Lb : cp_L} {H : pv_H} {σ : sw_S} (hc : c ≤ 61) (h : cx tr PO σ H F A Lb S Ek Ev pth plc) (hw : pv_wfx F S c 0 (kk 0)) (hy : cp_wy S kk 0) (hp : cx_p S A kk pth plc 0) (hl : cp_ll S Ek Ev Lb kk 0) :
    ∃ σ' H' A' Lb', f_X6_splitUpwards tr σ = some σ' ∧ cx tr PO σ' H' F A' Lb' (pv_spl F S.1 S 0 (kk 0)) Ek Ev pth plc ∧ pv_sg PO σ σ' ∧ cp_la (pv_spl F S.1 S 0 (kk 0)) Ek Ev Lb' := by
  have hS5 := (hw.cnt hc).1
  have h0 : 0 < S.1 := hw.2.2.1
  obtain ⟨σ', H', A', Lb', e, h1, t1, l1⟩ := cs_loop hc (S.1 - 1) 0 7 (by omega) (by omega) h hw hy hp hl
  rw [show S.1 - 1 + 1 = S.1 by omega] at h1 l1
  refine ⟨σ', H', A', Lb', ?_, h1, t1, l1⟩
  unfold f_X6_splitUpwards
  rw [h.1.g5, Option.bind_some]
  rw [show nI S.1 - 1 = nI (S.1 - 1) by
    obtain ⟨q, hq⟩ : ∃ q, S.1 = q + 1 := ⟨S.1 - 1, by omega⟩
    rw [hq, nI_pred]; rfl]
  exact e
end CZ
