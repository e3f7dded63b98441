/-! THE WAY TO A KEY'S LEAF -/
def cx (tr : Nat) (PO : Nat → Prop) (σ : sw_S) (H : pv_H) (F : Nat) (A : Nat → Nat → Nat) (Lb : cp_L) (S : pv_Sh) (Ek Ev : Nat → Int32) (pth : Nat → Option Nat) (plc : Nat → Int32) : Prop := ct tr PO (F + 1) σ H F S.1 (A (S.1 - 1) 0) pth plc ∧ cp H A Lb S Ek Ev
/-- the kept way: nodes and places from level l upwards -/
def cx_p (S : pv_Sh) (A : Nat → Nat → Nat) (kk : Nat → Nat) (pth : Nat → Option Nat) (plc : Nat → Int32) (l : Nat) : Prop := (∀ i, l ≤ i → i < S.1 → pth (S.1 - 1 - i) = some (A i (kk i))) ∧ ∀ i, l ≤ i → i + 1 < S.1 → plc (S.1 - 2 - i) = nI (kk i - pv_sum (S.2.2 (i + 1)) (kk (i + 1)))
theorem cp.kid {H : pv_H} {A : Nat → Nat → Nat} {Lb : cp_L} {S : pv_Sh} {Ek Ev : Nat → Int32} (h : cp H A Lb S Ek Ev) {l k : Nat} (hl : l < S.1) (hk : k < S.2.1 l) : ∃ w, H (A l k) = some w := by
  obtain ⟨s, h1, -⟩ := h.1 l k hl hk
  exact ⟨_, h1⟩
theorem pv_wf.sumC {F : Nat} {S : pv_Sh} {c : Nat} (h : pv_wf F S c) {l k j : Nat} (hl : l + 1 < S.1) (hk : k < S.2.1 (l + 1)) (hj : j < S.2.2 (l + 1) k) : pv_sum (S.2.2 (l + 1)) k + j < S.2.1 l := by
  have := pv_sum_lt (z := S.2.2 (l + 1)) (c := S.2.1 (l + 1)) (j := j) hk hj
  rw [h.2.2.2.2.2.1 l hl] at this; exact this
theorem pv_wf.pos {F : Nat} {S : pv_Sh} {c : Nat} (h : pv_wf F S c) {l k : Nat} (hl : l < S.1) (hk : k < S.2.1 l) (h0 : 1 < S.1) : 0 < S.2.2 l k := by
  obtain ⟨f1, f2, f3, f4, f5, f6, f7, f8, f9⟩ := h
  rcases (show l + 1 < S.1 ∨ l = S.1 - 1 by omega) with q | q
  · have := f7 l k q hk; omega
  · subst q
    rw [f4] at hk
    obtain rfl : k = 0 := by omega
    have := f9 h0; omega
section CW
variable {tr : Nat} {PO : Nat → Prop} {F c : Nat} {H : pv_H} {A : Nat → Nat → Nat} {Lb : cp_L} {S : pv_Sh} {Ek Ev : Nat → Int32}
theorem cw_loop (hw : pv_wf F S c) (hS : S.1 ≤ 5) (hlab : ∀ l, l < S.1 → ∀ k, k < S.2.1 l → S.2.2 l k ≠ 0 → (Lb l k).1 = Ek (pv_fi S.2.2 l k)) (key : Int32) : ∀ (l fuel : Nat) {σ : sw_S} {pth : Nat → Option Nat} {plc : Nat → Int32} {kk : Nat → Nat}, l < S.1 → l < fuel → cx tr PO σ H F A Lb S Ek Ev pth plc → cp_way S Ek key kk l → cx_p S A kk pth plc l →
    ∃ σ' pth' plc' kk', b_X6_leafFor_14 fuel tr key (some (A l (kk l))) (nI (S.1 - l)) σ = some (some (A 0 (kk' 0)), σ') ∧ cx tr PO σ' H F A Lb S Ek Ev pth' plc' ∧ pv_sg PO σ σ' ∧ cp_way S Ek key kk' 0 ∧ cx_p S A kk' pth' plc' 0 := by
  intro l
  induction l with
  | zero =>
    intro fuel σ pth plc kk hl hf h hy hp
    obtain ⟨f, rfl⟩ : ∃ f, fuel = f + 1 := ⟨fuel - 1, by omega⟩
    refine ⟨σ, pth, plc, kk, ?_, h, pv_sg.rf, hy, hp⟩
    show B_X6_leafFor_14 _ _ _ _ _ _ = _
    unfold B_X6_leafFor_14
    rw [h.1.g5, Option.bind_some, if_pos (nI_le (by omega) (by omega))]
  | succ l ih =>
    intro fuel σ pth plc kk hl hf h hy hp
    obtain ⟨f, rfl⟩ : ∃ f, fuel = f + 1 := ⟨fuel - 1, by omega⟩
    have hk := hy.1 (l + 1) (Nat.le_refl _) hl
    obtain ⟨s, h1, -, h3⟩ := h.2.1 (l + 1) (kk (l + 1)) hl hk
    have hz := hw.pos hl hk (by omega)
    have hzF := hw.2.2.2.2.2.2.2.1 _ _ hl hk
    have hs : ∀ j, j < S.2.2 (l + 1) (kk (l + 1)) → (s j).2.2 = some (A l (pv_sum (S.2.2 (l + 1)) (kk (l + 1)) + j)) := fun j hj => (h3 j hj).2 (by omega)
    have hkid : ∀ j, j < S.2.2 (l + 1) (kk (l + 1)) → pv_sum (S.2.2 (l + 1)) (kk (l + 1)) + j < S.2.1 l := fun j hj => hw.sumC hl hk hj
    have hlb : ∀ j, j < S.2.2 (l + 1) (kk (l + 1)) → (pv_lb H (s j).2.2).1 = Ek (pv_fi S.2.2 l (pv_sum (S.2.2 (l + 1)) (kk (l + 1)) + j)) := fun j hj => by
      rw [hs j hj, (h.2.1 l _ (by omega) (hkid j hj)).lb, hlab l (by omega) _ (hkid j hj) (by have := hw.pos (l := l) (by omega) (hkid j hj) (by omega); omega)]
    have ech := pv_childFor h.1.1 h1 (by omega) hz (fun j hj => ⟨_, (h.2.kid (l := l) (by omega) (hkid j hj)).choose, hs j hj, (h.2.kid (by omega) (hkid j hj)).choose_spec⟩) key
    obtain ⟨g1, g2, g3, g4⟩ := pv_childF_spec H s key (S.2.2 (l + 1) (kk (l + 1)) - 1) 0
    generalize hp0 : pv_childF H s key (S.2.2 (l + 1) (kk (l + 1)) - 1) 0 = p at ech g1 g2 g3 g4
    have hpl : p < S.2.2 (l + 1) (kk (l + 1)) := by omega
    obtain ⟨σ1, e1, c1, t1⟩ := h.1.spl (j := S.1 - (l + 1) - 1) (by omega) (nI p)
    obtain ⟨σ2, e2, c2, t2⟩ := c1.spa (j := S.1 - (l + 1)) (by omega) (r := some (A l (pv_sum (S.2.2 (l + 1)) (kk (l + 1)) + p))) (fun b hb => by cases hb; exact h.2.kid (by omega) (hkid p hpl))
    have hkk : ∀ i, l < i → (va_up kk l (pv_sum (S.2.2 (l + 1)) (kk (l + 1)) + p)) i = kk i := fun i hi => va_up_ne _ _ (by omega)
    have hy' : cp_way S Ek key (va_up kk l (pv_sum (S.2.2 (l + 1)) (kk (l + 1)) + p)) l := by
      refine ⟨fun i hi hi2 => ?_, fun i hi hi2 => ?_, ?_, ?_⟩
      · by_cases hil : i = l
        · subst hil; rw [va_up_self]; exact hkid p hpl
        · rw [hkk i (by omega)]; exact hy.1 i (by omega) hi2
      · by_cases hil : i = l
        · subst hil; rw [va_up_self, hkk (i + 1) (by omega)]; omega
        · rw [hkk i (by omega), hkk (i + 1) (by omega)]; exact hy.2.1 i (by omega) hi2
      · rw [va_up_self]
        by_cases hp1 : p = 0
        · rcases hy.2.2.1 with q | q
          · left; rw [q, hp1]; rfl
          · right; rw [hp1, Nat.add_zero]; exact q
        · right
          rcases g3 with q | q
          · exact absurd q hp1
          · rw [hlb p hpl] at q; exact Int32.not_lt.mp q
      · rw [va_up_self]
        intro hlt
        by_cases hp1 : p + 1 < S.2.2 (l + 1) (kk (l + 1))
        · have q := g4 (by omega)
          rw [hlb (p + 1) hp1] at q; exact q
        · have hsum : pv_sum (S.2.2 (l + 1)) (kk (l + 1)) + p + 1 = pv_sum (S.2.2 (l + 1)) (kk (l + 1) + 1) := by simp only [pv_sum]; omega
          rw [hsum] at hlt ⊢
          refine hy.2.2.2 ?_
          rcases (show kk (l + 1) + 1 < S.2.1 (l + 1) ∨ kk (l + 1) + 1 = S.2.1 (l + 1) by omega) with q | q
          · exact q
          · rw [q, hw.2.2.2.2.2.1 l hl] at hlt; omega
    have hp' : cx_p S A (va_up kk l (pv_sum (S.2.2 (l + 1)) (kk (l + 1)) + p)) (va_up pth (S.1 - (l + 1)) (some (A l (pv_sum (S.2.2 (l + 1)) (kk (l + 1)) + p)))) (upd plc (S.1 - (l + 1) - 1) (nI p)) l := by
      refine ⟨fun i hi hi2 => ?_, fun i hi hi2 => ?_⟩
      · by_cases hil : i = l
        · subst hil; rw [va_up_self, show S.1 - 1 - i = S.1 - (i + 1) by omega, va_up_self]
        · rw [hkk i (by omega), va_up_ne _ _ (by omega)]; exact hp.1 i (by omega) hi2
      · by_cases hil : i = l
        · subst hil
          rw [va_up_self, hkk (i + 1) (by omega), show S.1 - 2 - i = S.1 - (i + 1) - 1 by omega]
          simp [upd]
        · rw [hkk i (by omega), hkk (i + 1) (by omega), ← hp.2 i (by omega) hi2]
          simp only [upd]; rw [if_neg (by omega)]
    obtain ⟨σ', pth', plc', kk', e3, c3, t3, y3, p3⟩ := ih f (by omega) (by omega) ⟨c2, h.2⟩ hy' hp'
    refine ⟨σ', pth', plc', kk', ?_, c3, (t1.tr t2).tr t3, y3, p3⟩
    show B_X6_leafFor_14 _ _ _ _ _ _ = _
    unfold B_X6_leafFor_14
    rw [h.1.g5, Option.bind_some, if_neg (nI_ge (by omega) (by omega)), Option.bind_some, pv_ob h.1.1 h1, Option.bind_some, ech, Option.bind_some, pv_r3 h.1.1 h1, Option.bind_some, Option.bind_some, pv_a3 h.1.1 h1 (by omega), Option.bind_some, h.1.r3, Option.bind_some, Option.bind_some]
    have em : nI (S.1 - (l + 1)) - 1 = nI (S.1 - (l + 1) - 1) := by
      obtain ⟨q, hq⟩ : ∃ q, S.1 - (l + 1) = q + 1 := ⟨S.1 - (l + 1) - 1, by omega⟩
      rw [hq, nI_pred]; rfl
    rw [em, e1, Option.bind_some, c1.r2, Option.bind_some, Option.bind_some, hs p hpl, e2, Option.bind_some, nI_1, show S.1 - (l + 1) + 1 = S.1 - l by omega]
    rw [va_up_self] at e3
    exact e3
theorem cw_leafFor {σ : sw_S} {pth : Nat → Option Nat} {plc : Nat → Int32} (hw : pv_wf F S c) (hS : S.1 ≤ 5) (hlab : ∀ l, l < S.1 → ∀ k, k < S.2.1 l → S.2.2 l k ≠ 0 → (Lb l k).1 = Ek (pv_fi S.2.2 l k)) (key : Int32) (h : cx tr PO σ H F A Lb S Ek Ev pth plc) :
    ∃ σ' pth' plc' kk', f_X6_leafFor tr key σ = some (some (A 0 (kk' 0)), σ') ∧ cx tr PO σ' H F A Lb S Ek Ev pth' plc' ∧ pv_sg PO σ σ' ∧ cp_way S Ek key kk' 0 ∧ cx_p S A kk' pth' plc' 0 := by
  have h1 : 0 < S.1 := hw.2.2.1
  have h2 : S.2.1 (S.1 - 1) = 1 := hw.2.2.2.1
  obtain ⟨σ1, e1, c1, t1⟩ := h.1.spa (j := 0) (by omega) (r := some (A (S.1 - 1) 0)) (fun b hb => by cases hb; exact h.2.kid (by omega) (by omega))
  have hy : cp_way S Ek key (fun _ => 0) (S.1 - 1) := by
    refine ⟨fun i hi hi2 => ?_, fun i hi hi2 => by omega, Or.inl rfl, fun q => by simp only at q; omega⟩
    rw [show i = S.1 - 1 by omega, h2]; exact Nat.zero_lt_one
  have hp : cx_p S A (fun _ => 0) (va_up pth 0 (some (A (S.1 - 1) 0))) plc (S.1 - 1) := by
    refine ⟨fun i hi hi2 => ?_, fun i hi hi2 => by omega⟩
    rw [show i = S.1 - 1 by omega, Nat.sub_self, va_up_self]
  obtain ⟨σ', pth', plc', kk', e3, c3, t3, y3, p3⟩ := cw_loop hw hS hlab key (S.1 - 1) 1000 (kk := fun _ => 0) (by omega) (by omega) ⟨c1, h.2⟩ hy hp
  refine ⟨σ', pth', plc', kk', ?_, c3, t1.tr t3, y3, p3⟩
  unfold f_X6_leafFor
  rw [h.1.r4, Option.bind_some, h.1.r2, Option.bind_some, Option.bind_some]
  rw [show (0 : Int32) = nI 0 from rfl, e1, Option.bind_some]
  rw [show S.1 - (S.1 - 1) = 1 by omega] at e3
  exact e3
end CW
