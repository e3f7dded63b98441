/-! THE CLASS'S size, height, root, within -/
section CX
variable {tr : Nat} {PO : Nat → Prop} {F c : Nat} {S : pv_Sh} {Ek Ev : Nat → Int32} {σ : sw_S} {H : pv_H} {A : Nat → Nat → Nat} {Lb : cp_L} {pth : Nat → Option Nat} {plc : Nat → Int32}
/-- where the slots of a node begin among the entries -/
def pv_gs (Z : Nat → Nat → Nat) (l k i : Nat) : Nat := match l with
  | 0 => pv_sum (Z 0) k + i
  | l + 1 => pv_fi Z l (pv_sum (Z (l + 1)) k + i)
theorem pv_gs_0 (Z : Nat → Nat → Nat) (l k : Nat) : pv_gs Z l k 0 = pv_fi Z l k := by cases l <;> rfl
theorem pv_gs_n (Z : Nat → Nat → Nat) (l k : Nat) : pv_gs Z l k (Z l k) = pv_fi Z l (k + 1) := by cases l <;> rfl
theorem ce_loop (h : cx tr PO σ H F A Lb S Ek Ev pth plc) (hw : pv_wf F S c) (hS5 : S.1 ≤ 5) {l k : Nat} (hl : l < S.1) (hk : k < S.2.1 l) (a b : Int32) (recm : Nat → Nat → Int32 → Int32 → Int32 → sw_S → Option Int32)
    (hrec : ∀ l', l' + 1 = l → ∀ k', k' < S.2.1 l' → ∃ x, recm tr (A l' k') a b (nI (S.1 - l')) σ = some x ∧ nI (pv_cnt Ek a b (pv_fi S.2.2 l' k')) + x = nI (pv_cnt Ek a b (pv_fi S.2.2 l' (k' + 1)))) : ∀ (q i fuel : Nat) (acc : Int32), i + q = S.2.2 l k → q < fuel → ∃ r, b_X6_entriesBelow_6 recm fuel tr (A l k) a b (nI (S.1 - l)) acc (nI i) σ = some (acc + r) ∧ nI (pv_cnt Ek a b (pv_gs S.2.2 l k i)) + r = nI (pv_cnt Ek a b (pv_gs S.2.2 l k (S.2.2 l k))) := by
  obtain ⟨s, h1, -, h3⟩ := h.2.1 l k hl hk
  have hzF := hw.2.2.2.2.2.2.2.1 l k hl hk
  have hF := hw.2.1
  intro q
  induction q with
  | zero =>
    intro i fuel acc hi hf
    obtain ⟨f, rfl⟩ : ∃ f, fuel = f + 1 := ⟨fuel - 1, by omega⟩
    refine ⟨0, ?_, by rw [show i = S.2.2 l k by omega]; simp⟩
    show B_X6_entriesBelow_6 _ _ _ _ _ _ _ _ _ _ = _
    unfold B_X6_entriesBelow_6
    rw [pv_g4 h.1.1 h1, Option.bind_some, if_pos (nI_le (by omega) (by omega))]
    unfold b_X6_entriesBelow_85
    simp
  | succ q ih =>
    intro i fuel acc hi hf
    obtain ⟨f, rfl⟩ : ∃ f, fuel = f + 1 := ⟨fuel - 1, by omega⟩
    have hd : ¬ (6 : Int32) < nI (S.1 - l) := nI_nlt (show S.1 - l ≤ 6 by omega) (by decide)
    cases l with
    | zero =>
      have hs := (h3 i (by omega)).1 rfl
      obtain ⟨x, hx, hx2⟩ : ∃ x : Nat, pv_cnt Ek a b (pv_sum (S.2.2 0) k + i + 1) = pv_cnt Ek a b (pv_sum (S.2.2 0) k + i) + x ∧ x = (if Ek (pv_sum (S.2.2 0) k + i) < a then 0 else if b < Ek (pv_sum (S.2.2 0) k + i) then 0 else 1) := ⟨_, rfl, rfl⟩
      obtain ⟨r, e, hr⟩ := ih (i + 1) f (acc + nI x) (by omega) (by omega)
      refine ⟨nI x + r, ?_, ?_⟩
      · show B_X6_entriesBelow_6 _ _ _ _ _ _ _ _ _ _ = _
        unfold B_X6_entriesBelow_6
        rw [pv_g4 h.1.1 h1, Option.bind_some, if_neg (nI_ge (by omega) (by omega)), if_neg hd, pv_g0 h.1.1 h1, Option.bind_some, if_pos rfl, if_neg (by decide), pv_r1 h.1.1 h1, Option.bind_some, Option.bind_some, pv_a1 h.1.1 h1 (by omega), Option.bind_some, hs]
        unfold b_X6_entriesBelow_79
        simp only
        rw [nI_1, ← Int32.add_assoc, ← e]
        by_cases c1 : Ek (pv_sum (S.2.2 0) k + i) < a
        · rw [if_pos c1] at hx2 ⊢
          rw [hx2]; simp [nI_0]
        · rw [if_neg c1] at hx2 ⊢
          rw [Option.bind_some, Option.bind_some, pv_a1 h.1.1 h1 (by omega), Option.bind_some, hs]
          simp only
          by_cases c2 : b < Ek (pv_sum (S.2.2 0) k + i)
          · rw [if_pos c2] at hx2 ⊢
            rw [hx2]; simp [nI_0]
          · rw [if_neg c2] at hx2 ⊢
            rw [hx2]; rfl
      · rw [← Int32.add_assoc, ← hr]
        congr 1
        show nI (pv_cnt Ek a b (pv_sum (S.2.2 0) k + i)) + nI x = nI (pv_cnt Ek a b (pv_sum (S.2.2 0) k + (i + 1)))
        rw [nI_add, ← hx]; rfl
    | succ l =>
      have hs := (h3 i (by omega)).2 (by omega)
      simp only [Nat.add_sub_cancel] at hs
      have hkid := hw.sumC hl hk (show i < S.2.2 (l + 1) k by omega)
      obtain ⟨x, hx, hx2⟩ := hrec l rfl _ hkid
      obtain ⟨r, e, hr⟩ := ih (i + 1) f (acc + x) (by omega) (by omega)
      refine ⟨x + r, ?_, ?_⟩
      · show B_X6_entriesBelow_6 _ _ _ _ _ _ _ _ _ _ = _
        unfold B_X6_entriesBelow_6
        rw [pv_g4 h.1.1 h1, Option.bind_some, if_neg (nI_ge (by omega) (by omega)), if_neg hd, pv_g0 h.1.1 h1, Option.bind_some, if_neg (by omega : ¬ l + 1 = 0), if_pos rfl, pv_r3 h.1.1 h1, Option.bind_some, Option.bind_some, pv_a3 h.1.1 h1 (by omega), Option.bind_some, hs, Option.bind_some, h.1.ob, Option.bind_some, nI_1, show S.1 - (l + 1) + 1 = S.1 - l by omega, hx, Option.bind_some]
        unfold b_X6_entriesBelow_79
        rw [nI_1, ← Int32.add_assoc, ← e]
      · rw [← Int32.add_assoc, ← hr]
        congr 1
theorem ce_rec (h : cx tr PO σ H F A Lb S Ek Ev pth plc) (hw : pv_wf F S c) (hS5 : S.1 ≤ 5) (a b : Int32) : ∀ (l d : Nat), l < S.1 → l < d → ∀ k, k < S.2.1 l → ∃ x, f_X6_entriesBelow d tr (A l k) a b (nI (S.1 - l)) σ = some x ∧ nI (pv_cnt Ek a b (pv_fi S.2.2 l k)) + x = nI (pv_cnt Ek a b (pv_fi S.2.2 l (k + 1))) := by
  intro l
  induction l with
  | zero =>
    intro d hl hd k hk
    obtain ⟨f, rfl⟩ : ∃ f, d = f + 1 := ⟨d - 1, by omega⟩
    obtain ⟨r, e, hr⟩ := ce_loop h hw hS5 hl hk a b (f_X6_entriesBelow f) (fun l' hl' => by omega) (S.2.2 0 k) 0 1000 0 (by omega) (by have := hw.2.2.2.2.2.2.2.1 0 k hl hk; have := hw.2.1; omega)
    rw [pv_gs_0, pv_gs_n] at hr
    rw [Int32.zero_add] at e
    exact ⟨r, e, hr⟩
  | succ l ih =>
    intro d hl hd k hk
    obtain ⟨f, rfl⟩ : ∃ f, d = f + 1 := ⟨d - 1, by omega⟩
    obtain ⟨r, e, hr⟩ := ce_loop h hw hS5 hl hk a b (f_X6_entriesBelow f) (fun l' hl' k' hk' => by
      obtain rfl : l' = l := by omega
      exact ih f (by omega) (by omega) k' hk') (S.2.2 (l + 1) k) 0 1000 0 (by omega) (by have := hw.2.2.2.2.2.2.2.1 (l + 1) k hl hk; have := hw.2.1; omega)
    rw [pv_gs_0, pv_gs_n] at hr
    rw [Int32.zero_add] at e
    exact ⟨r, e, hr⟩
theorem cz_within (h : cz tr PO σ F S Ek Ev) (hw : pv_wf F S c) (hc : c ≤ 60) (a b : Int32) : f_X6_entriesFromTo tr a b σ = some (nI (pv_cnt Ek a b c)) := by
  obtain ⟨H, A, Lb, pth, plc, h1, h2⟩ := h
  have h0 : 0 < S.1 := hw.2.2.1
  have hC : S.2.1 (S.1 - 1) = 1 := hw.2.2.2.1
  have hS5 := ((hw.x 0 0).cnt (by omega)).1
  obtain ⟨x, e, hx⟩ := ce_rec h1 hw hS5 a b (S.1 - 1) 8 (by omega) (by omega) 0 (by omega)
  have h3 := pv_fi_C (hw.ok (by omega)) (S.1 - 1) (by omega)
  rw [hC] at h3
  rw [pv_fi_0, Nat.zero_add, h3] at hx
  rw [show S.1 - (S.1 - 1) = 1 by omega] at e
  unfold f_X6_entriesFromTo
  rw [h1.1.r4, Option.bind_some, Option.bind_some, h1.1.ob, Option.bind_some]
  rw [show (1 : Int32) = nI 1 from rfl, e, Option.bind_some, ← hx]
  simp [pv_cnt, nI_0]
theorem cz_size (h : cz tr PO σ F S Ek Ev) (hw : pv_wf F S c) (hc : c ≤ 60) : ∃ r, sw_gR 6 tr 4 σ = some (some r) ∧ sw_gI 1 r 6 σ = some (nI c) ∧ sw_gI 1 r 7 σ = some (pv_dg S.2.2 Ek Ev (S.1 - 1) 0) ∧ sw_gI 6 tr 5 σ = some (nI S.1) := by
  obtain ⟨H, A, Lb, pth, plc, h1, h2⟩ := h
  have h0 : 0 < S.1 := hw.2.2.1
  have hC : S.2.1 (S.1 - 1) = 1 := hw.2.2.2.1
  have hlab := h2.lab hw (by omega) (S.1 - 1) (by omega) 0 (by omega)
  obtain ⟨s, a1, -⟩ := h1.2.1 (S.1 - 1) 0 (by omega) (by omega)
  refine ⟨_, h1.1.r4, ?_, ?_, h1.1.g5⟩
  · rw [pv_g6 h1.1.1 a1, hlab.2.2, pv_cn_all hw (by omega)]
  · rw [pv_g7 h1.1.1 a1, hlab.2.1]
end CX
