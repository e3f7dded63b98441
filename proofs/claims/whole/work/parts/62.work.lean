/-! LABELS: first entry, count and digest of each node; the reference's work() -/
def pv_fi (Z : Nat → Nat → Nat) : Nat → Nat → Nat
  | 0, k => pv_sum (Z 0) k
  | l + 1, k => pv_fi Z l (pv_sum (Z (l + 1)) k)
def pv_cn (Z : Nat → Nat → Nat) : Nat → Nat → Int32
  | 0, k => nI (Z 0 k)
  | l + 1, k => pv_it (fun j x => x + pv_cn Z l (pv_sum (Z (l + 1)) k + j)) (Z (l + 1) k) 0
def pv_dg (Z : Nat → Nat → Nat) (Ek Ev : Nat → Int32) : Nat → Nat → Int32
  | 0, k => pv_it (fun j h => pv_mix (pv_mix h (Ek (pv_sum (Z 0) k + j))) (Ev (pv_sum (Z 0) k + j))) (Z 0 k) (pv_mix (pv_mix 1 1) (nI (Z 0 k)))
  | l + 1, k => pv_it (fun j h => pv_lm h (Ek (pv_fi Z l (pv_sum (Z (l + 1)) k + j)), pv_dg Z Ek Ev l (pv_sum (Z (l + 1)) k + j), pv_cn Z l (pv_sum (Z (l + 1)) k + j))) (Z (l + 1) k) (pv_mix (pv_mix 1 2) (nI (Z (l + 1) k)))
theorem pv_sum_mono (z : Nat → Nat) (a b : Nat) : pv_sum z a ≤ pv_sum z (a + b) := by
  induction b with
  | zero => exact Nat.le_refl _
  | succ b ih => exact Nat.le_trans ih (Nat.le_add_right _ _)
theorem pv_sum_lt {z : Nat → Nat} {c k j : Nat} (hk : k < c) (hj : j < z k) : pv_sum z k + j < pv_sum z c := by
  have h := pv_sum_mono z (k + 1) (c - (k + 1))
  rw [show k + 1 + (c - (k + 1)) = c by omega] at h
  have : pv_sum z (k + 1) = pv_sum z k + z k := rfl
  omega
/-- shape and entries belong together, rows are large enough -/
def pv_ok (S : pv_Sh) (c : Nat) : Prop := 0 < S.1 ∧ S.1 ≤ 7 ∧ c ≤ 61 ∧ pv_sum (S.2.2 0) (S.2.1 0) = c ∧ (∀ l, l + 1 < S.1 → pv_sum (S.2.2 (l + 1)) (S.2.1 (l + 1)) = S.2.1 l) ∧ (∀ l, l + 1 < S.1 → ∀ k, k < S.2.1 l → 0 < S.2.2 l k) ∧ ∀ l, l < S.1 → ∀ k, k < S.2.1 l → S.2.2 l k < 100
theorem pv_ok.fi {S : pv_Sh} {c : Nat} (h : pv_ok S c) : ∀ l, l + 1 < S.1 → ∀ k, k < S.2.1 l → pv_fi S.2.2 l k < c := by
  obtain ⟨-, -, -, h0, h1, h2, -⟩ := h
  intro l
  induction l with
  | zero =>
    intro hl k hk
    have := pv_sum_lt (z := S.2.2 0) (c := S.2.1 0) (j := 0) hk (h2 0 hl k hk)
    simp only [pv_fi]
    omega
  | succ l ih =>
    intro hl k hk
    simp only [pv_fi]
    have := pv_sum_lt (z := S.2.2 (l + 1)) (c := S.2.1 (l + 1)) (j := 0) hk (h2 (l + 1) hl k hk)
    rw [h1 l (by omega)] at this
    exact ih (by omega) _ (by omega)
section M3
variable {n m0 : Nat} {I : Nat → Int32} {Aj : Nat → Nat → Int64}
/-- node (l, k) is labelled in the reference's rows -/
def md_lab (Ar : Nat → Nat → Int32) (S : pv_Sh) (l k : Nat) : Prop := Ar 6 (64 * l + k) = nI (pv_fi S.2.2 l k) ∧ Ar 7 (64 * l + k) = pv_cn S.2.2 l k ∧ Ar 5 (64 * l + k) = pv_dg S.2.2 (Ar 1) (Ar 2) l k
def md_k567 (Ar Ar' : Nat → Nat → Int32) (s : Nat) : Prop := (∀ t, t ≠ 5 → t ≠ 6 → t ≠ 7 → Ar' t = Ar t) ∧ ∀ t p, p ≠ s → Ar' t p = Ar t p
theorem md_low {l k q : Nat} (hk : k < 64) (hl : l < 8) (hq : q < 64) : (nI (64 * (l + 1) + k) - (nI (64 * (l + 1) + k) - nI (64 * (l + 1) + k) / 64 * 64)) - 64 + nI q = nI (64 * l + q) := by
  show (nI (64 * (l + 1) + k) - (nI (64 * (l + 1) + k) - nI (64 * (l + 1) + k) / nI 64 * nI 64)) - nI 64 + nI q = _
  rw [pk_rem (by omega) (by omega) (by omega), show (64 * (l + 1) + k) % 64 = k by omega, pk_sub (by omega), pk_sub (by omega), nI_add]
  congr 1; omega
theorem md_wn_loop {S : pv_Sh} {c l k : Nat} (hok : pv_ok S c) (hl : l < S.1) (hk : k < S.2.1 l) (hk64 : ∀ l, l < S.1 → S.2.1 l < 64) : ∀ (q j fuel : Nat) {Ar : Nat → Nat → Int32} {h x : Int32}, j + q = S.2.2 l k → q < fuel → Ar 3 (64 * l + k) = nI (S.2.2 l k) → (∀ l', l' + 1 = l → ∀ i, i < S.2.1 l' → md_lab Ar S l' i) → Ar 7 (64 * l + k) = x →
    h = (match l with | 0 => pv_it (fun j h => pv_mix (pv_mix h (Ar 1 (pv_sum (S.2.2 0) k + j))) (Ar 2 (pv_sum (S.2.2 0) k + j))) j (pv_mix (pv_mix 1 1) (nI (S.2.2 0 k))) | l + 1 => pv_it (fun j h => pv_lm h (Ar 1 (pv_fi S.2.2 l (pv_sum (S.2.2 (l + 1)) k + j)), pv_dg S.2.2 (Ar 1) (Ar 2) l (pv_sum (S.2.2 (l + 1)) k + j), pv_cn S.2.2 l (pv_sum (S.2.2 (l + 1)) k + j))) j (pv_mix (pv_mix 1 2) (nI (S.2.2 (l + 1) k)))) →
    x = (match l with | 0 => nI j | l + 1 => pv_it (fun j x => x + pv_cn S.2.2 l (pv_sum (S.2.2 (l + 1)) k + j)) j 0) →
    ∃ Ar', b_X8_workNode_64 fuel m0 (nI l) (nI (64 * l + k)) (nI (pv_sum (S.2.2 l) k)) h (nI (pv_sum (S.2.2 l) k + j)) (n, md_mk m0 I Ar Aj) = some (n, md_mk m0 I Ar' Aj) ∧ Ar' 7 (64 * l + k) = pv_cn S.2.2 l k ∧ Ar' 5 (64 * l + k) = pv_dg S.2.2 (Ar 1) (Ar 2) l k ∧ Ar' 6 = Ar 6 ∧ md_k567 Ar Ar' (64 * l + k) := by
  obtain ⟨o1, o2, o3, o4, o5, o6, o7⟩ := id hok
  have hkl := hk64 l hl
  have hz := o7 l hl k hk
  have hsl : pv_sum (S.2.2 l) k + S.2.2 l k ≤ 100 := by
    have hm := pv_sum_mono (S.2.2 l) (k + 1) (S.2.1 l - (k + 1))
    rw [show k + 1 + (S.2.1 l - (k + 1)) = S.2.1 l by omega] at hm
    have : pv_sum (S.2.2 l) (k + 1) = pv_sum (S.2.2 l) k + S.2.2 l k := rfl
    cases l with
    | zero => omega
    | succ l => have := o5 l hl; have := hk64 l (by omega); omega
  intro q
  induction q with
  | zero =>
    intro j fuel Ar h x hj hf h3 hlab h7 hh hx
    obtain ⟨f, rfl⟩ : ∃ f, fuel = f + 1 := ⟨fuel - 1, by omega⟩
    show ∃ Ar', B_X8_workNode_64 (b_X8_workNode_64 f) m0 (nI l) _ _ h _ _ = _ ∧ _
    unfold B_X8_workNode_64
    obtain rfl : j = S.2.2 l k := by omega
    rw [md_r6, Option.bind_some, Option.bind_some, md_l3, sw_ix_nI (by omega) (by omega), Option.bind_some, Option.bind_some, h3, nI_add, if_pos (nI_le (by omega) (by omega)), md_r8, Option.bind_some, Option.bind_some, md_s5, sw_ix_nI (by omega) (by omega), Option.bind_some, Option.bind_some]
    refine ⟨_, rfl, ?_, ?_, ?_, ?_, ?_⟩
    · simp only [md_u, if_neg (show ¬ (7 : Nat) = 5 by decide)]
      rw [h7, hx]
      cases l <;> rfl
    · simp only [md_u, if_pos]
      rw [hh]
      cases l <;> rfl
    · funext p; simp [md_u]
    · intro t t5 _ _; funext p; simp [md_u, t5]
    · intro t p hp; simp [md_u, hp]
  | succ q ih =>
    intro j fuel Ar h x hj hf h3 hlab h7 hh hx
    obtain ⟨f, rfl⟩ : ∃ f, fuel = f + 1 := ⟨fuel - 1, by omega⟩
    show ∃ Ar', B_X8_workNode_64 (b_X8_workNode_64 f) m0 (nI l) _ _ h _ _ = _ ∧ _
    unfold B_X8_workNode_64
    rw [md_r6, Option.bind_some, Option.bind_some, md_l3, sw_ix_nI (by omega) (by omega), Option.bind_some, Option.bind_some, h3, nI_add, if_neg (nI_ge (by omega) (by omega))]
    cases l with
    | zero =>
      have hjc := pv_sum_lt (z := S.2.2 0) (c := S.2.1 0) (j := j) hk (by omega)
      rw [if_pos nI_0]
      unfold b_X8_workNode_98
      rw [if_pos nI_0, md_r3, Option.bind_some, Option.bind_some, md_l1, sw_ix_nI (by omega) (by omega), Option.bind_some, Option.bind_some, pv_add, Option.bind_some, md_r4, Option.bind_some, Option.bind_some, md_l2, sw_ix_nI (by omega) (by omega), Option.bind_some, Option.bind_some, pv_add, Option.bind_some]
      unfold b_X8_workNode_170
      rw [md_r10, Option.bind_some, Option.bind_some, Option.bind_some, md_l7, sw_ix_nI (by omega) (by omega), Option.bind_some, Option.bind_some, if_pos nI_0]
      unfold b_X8_workNode_196
      rw [Option.bind_some, md_s7, sw_ix_nI (by omega) (by omega), Option.bind_some, Option.bind_some, nI_1]
      obtain ⟨Ar', r1, r2, r3, r4, r5⟩ := ih (j + 1) f (Ar := md_u Ar 7 (64 * 0 + k) (Ar 7 (64 * 0 + k) + 1)) (h := pv_mix (pv_mix h (Ar 1 (pv_sum (S.2.2 0) k + j))) (Ar 2 (pv_sum (S.2.2 0) k + j))) (x := nI (j + 1)) (by omega) (by omega) (by simpa [md_u] using h3) (fun l' hl' => by omega) (by simp only [md_u, if_pos]; rw [h7, hx, nI_1]) (by
        rw [hh]; simp only [pv_it, md_u, if_neg (show ¬ (1 : Nat) = 7 by decide), if_neg (show ¬ (2 : Nat) = 7 by decide)]) rfl
      refine ⟨Ar', by rw [show pv_sum (S.2.2 0) k + j + 1 = pv_sum (S.2.2 0) k + (j + 1) by omega]; exact r1, r2, ?_, ?_, ?_, ?_⟩
      · rw [r3]; rfl
      · rw [r4]; rfl
      · intro t t5 t6 t7; rw [r5.1 t t5 t6 t7]; funext p; simp [md_u, t7]
      · intro t p hp; rw [r5.2 t p hp]; simp only [md_u, if_neg hp, ite_self]
    | succ l =>
      have hjc := pv_sum_lt (z := S.2.2 (l + 1)) (c := S.2.1 (l + 1)) (j := j) hk (by omega)
      rw [o5 l hl] at hjc
      have hkl' := hk64 l (by omega)
      have hne : ¬ nI (l + 1) = 0 := nI_ne0 (by omega) (by omega)
      obtain ⟨b1, b2, b3⟩ := hlab l rfl (pv_sum (S.2.2 (l + 1)) k + j) hjc
      have hfi := hok.fi l (by omega) _ hjc
      rw [if_neg hne, md_low (by omega) (by omega) (by omega)]
      unfold b_X8_workNode_98
      rw [if_neg hne, md_r3, Option.bind_some, md_r9, Option.bind_some, Option.bind_some, md_l6, sw_ix_nI (by omega) (by omega), Option.bind_some, Option.bind_some, b1, Option.bind_some, md_l1, sw_ix_nI (by omega) (by omega), Option.bind_some, Option.bind_some, pv_add, Option.bind_some, md_r8, Option.bind_some, Option.bind_some, md_l5, sw_ix_nI (by omega) (by omega), Option.bind_some, Option.bind_some, pv_add, Option.bind_some, md_r10, Option.bind_some, Option.bind_some, md_l7, sw_ix_nI (by omega) (by omega), Option.bind_some, Option.bind_some, pv_add, Option.bind_some]
      unfold b_X8_workNode_170
      rw [md_r10, Option.bind_some, Option.bind_some, Option.bind_some, md_l7, sw_ix_nI (by omega) (by omega), Option.bind_some, Option.bind_some, if_neg hne, Option.bind_some, Option.bind_some, md_l7, sw_ix_nI (by omega) (by omega), Option.bind_some, Option.bind_some]
      unfold b_X8_workNode_196
      rw [Option.bind_some, md_s7, sw_ix_nI (by omega) (by omega), Option.bind_some, Option.bind_some, nI_1]
      obtain ⟨Ar', r1, r2, r3, r4, r5⟩ := ih (j + 1) f (Ar := md_u Ar 7 (64 * (l + 1) + k) (Ar 7 (64 * (l + 1) + k) + Ar 7 (64 * l + (pv_sum (S.2.2 (l + 1)) k + j)))) (h := pv_mix (pv_mix (pv_mix h (Ar 1 (pv_fi S.2.2 l (pv_sum (S.2.2 (l + 1)) k + j)))) (Ar 5 (64 * l + (pv_sum (S.2.2 (l + 1)) k + j)))) (Ar 7 (64 * l + (pv_sum (S.2.2 (l + 1)) k + j)))) (x := pv_it (fun j x => x + pv_cn S.2.2 l (pv_sum (S.2.2 (l + 1)) k + j)) (j + 1) 0) (by omega) (by omega) (by simpa [md_u] using h3) (fun l' hl' i hi => by
          obtain rfl : l' = l := by omega
          obtain ⟨q1, q2, q3⟩ := hlab l' rfl i hi
          refine ⟨by simpa [md_u] using q1, ?_, ?_⟩
          · simp only [md_u, if_pos]; rw [if_neg (by omega)]; exact q2
          · exact q3) (by
          simp only [md_u, if_pos]; rw [h7, hx, b2]; rfl) (by
          rw [hh, b2, b3]; rfl) rfl
      refine ⟨Ar', by rw [show pv_sum (S.2.2 (l + 1)) k + j + 1 = pv_sum (S.2.2 (l + 1)) k + (j + 1) by omega]; exact r1, r2, ?_, ?_, ?_, ?_⟩
      · rw [r3]; rfl
      · rw [r4]; rfl
      · intro t t5 t6 t7; rw [r5.1 t t5 t6 t7]; funext p; simp [md_u, t7]
      · intro t p hp; rw [r5.2 t p hp]; simp only [md_u, if_neg hp, ite_self]
theorem md_workNode {Ar : Nat → Nat → Int32} {S : pv_Sh} {c l k : Nat} (hok : pv_ok S c) (hl : l < S.1) (hk : k < S.2.1 l) (hk64 : ∀ l, l < S.1 → S.2.1 l < 64) (h3 : Ar 3 (64 * l + k) = nI (S.2.2 l k)) (hlab : ∀ l', l' + 1 = l → ∀ i, i < S.2.1 l' → md_lab Ar S l' i) (hne : ∀ l', l' + 1 = l → 0 < S.2.2 l k) :
    ∃ Ar', f_X8_workNode m0 (nI l) (nI (64 * l + k)) (nI (pv_sum (S.2.2 l) k)) (n, md_mk m0 I Ar Aj) = some (n, md_mk m0 I Ar' Aj) ∧ md_lab Ar' S l k ∧ md_k567 Ar Ar' (64 * l + k) := by
  obtain ⟨o1, o2, o3, o4, o5, o6, o7⟩ := id hok
  have hkl := hk64 l hl
  have hz := o7 l hl k hk
  unfold f_X8_workNode
  cases l with
  | zero =>
    rw [if_pos nI_0]
    unfold b_X8_workNode_10
    rw [pv_add, Option.bind_some, md_r6, Option.bind_some, Option.bind_some, md_l3, sw_ix_nI (by omega) (by omega), Option.bind_some, Option.bind_some, h3, pv_add, Option.bind_some, md_r9, Option.bind_some, if_pos nI_0]
    unfold b_X8_workNode_53
    rw [Option.bind_some, md_s6, sw_ix_nI (by omega) (by omega), Option.bind_some, Option.bind_some, md_r10, Option.bind_some, Option.bind_some, md_s7, sw_ix_nI (by omega) (by omega), Option.bind_some, Option.bind_some]
    obtain ⟨Ar', r1, r2, r3, r4, r5⟩ := md_wn_loop (n := n) (m0 := m0) (I := I) (Aj := Aj) hok hl hk hk64 (S.2.2 0 k) 0 1000 (Ar := md_u (md_u Ar 6 (64 * 0 + k) (nI (pv_sum (S.2.2 0) k))) 7 (64 * 0 + k) 0) (h := pv_mix (pv_mix 1 1) (nI (S.2.2 0 k))) (x := 0) (by omega) (by omega) (by simpa [md_u] using h3) (fun l' hl' => by omega) (by simp [md_u]) rfl nI_0.symm
    refine ⟨Ar', r1, ⟨?_, r2, ?_⟩, ?_, ?_⟩
    · rw [r4]; simp [md_u, pv_fi]
    · rw [r5.1 1 (by decide) (by decide) (by decide), r5.1 2 (by decide) (by decide) (by decide), r3]
    · intro t t5 t6 t7; rw [r5.1 t t5 t6 t7]; funext p; simp [md_u, t6, t7]
    · intro t p hp; rw [r5.2 t p hp]; simp only [md_u, if_neg hp, ite_self]
  | succ l =>
    have hn0 : ¬ nI (l + 1) = 0 := nI_ne0 (by omega) (by omega)
    have h0 := hne l rfl
    have hjc := pv_sum_lt (z := S.2.2 (l + 1)) (c := S.2.1 (l + 1)) (j := 0) hk h0
    rw [o5 l hl] at hjc
    have hkl' := hk64 l (by omega)
    obtain ⟨b1, b2, b3⟩ := hlab l rfl (pv_sum (S.2.2 (l + 1)) k) (by omega)
    rw [if_neg hn0]
    unfold b_X8_workNode_10
    rw [pv_add, Option.bind_some, md_r6, Option.bind_some, Option.bind_some, md_l3, sw_ix_nI (by omega) (by omega), Option.bind_some, Option.bind_some, h3, pv_add, Option.bind_some, md_r9, Option.bind_some, if_neg hn0, Option.bind_some, Option.bind_some, md_low (by omega) (by omega) (by omega), md_l6, sw_ix_nI (by omega) (by omega), Option.bind_some, Option.bind_some, b1]
    unfold b_X8_workNode_53
    rw [Option.bind_some, md_s6, sw_ix_nI (by omega) (by omega), Option.bind_some, Option.bind_some, md_r10, Option.bind_some, Option.bind_some, md_s7, sw_ix_nI (by omega) (by omega), Option.bind_some, Option.bind_some]
    obtain ⟨Ar', r1, r2, r3, r4, r5⟩ := md_wn_loop (n := n) (m0 := m0) (I := I) (Aj := Aj) hok hl hk hk64 (S.2.2 (l + 1) k) 0 1000 (Ar := md_u (md_u Ar 6 (64 * (l + 1) + k) (nI (pv_fi S.2.2 l (pv_sum (S.2.2 (l + 1)) k)))) 7 (64 * (l + 1) + k) 0) (h := pv_mix (pv_mix 1 2) (nI (S.2.2 (l + 1) k))) (x := 0) (by omega) (by omega) (by simpa [md_u] using h3) (fun l' hl' i hi => by
        obtain rfl : l' = l := by omega
        obtain ⟨q1, q2, q3⟩ := hlab l' rfl i hi
        have := hk64 l' (by omega)
        refine ⟨?_, ?_, q3⟩
        · simp only [md_u, if_neg (show ¬ (6 : Nat) = 7 by decide), if_pos]; rw [if_neg (by omega)]; exact q1
        · simp only [md_u, if_pos]; rw [if_neg (by omega)]; exact q2) (by simp [md_u]) rfl rfl
    refine ⟨Ar', r1, ⟨?_, r2, ?_⟩, ?_, ?_⟩
    · rw [r4]; simp [md_u, pv_fi]
    · rw [r5.1 1 (by decide) (by decide) (by decide), r5.1 2 (by decide) (by decide) (by decide), r3]
    · intro t t5 t6 t7; rw [r5.1 t t5 t6 t7]; funext p; simp [md_u, t6, t7]
    · intro t p hp; rw [r5.2 t p hp]; simp only [md_u, if_neg hp, ite_self]
/-- all labels but the rows 5, 6, 7 are as they were -/
def md_kl (Ar Ar' : Nat → Nat → Int32) : Prop := ∀ t, t ≠ 5 → t ≠ 6 → t ≠ 7 → Ar' t = Ar t
theorem md_lab.kl {Ar Ar' : Nat → Nat → Int32} {S : pv_Sh} {l k s : Nat} (h : md_lab Ar S l k) (hk : md_k567 Ar Ar' s) (hs : s ≠ 64 * l + k) : md_lab Ar' S l k := by
  obtain ⟨h1, h2, h3⟩ := h
  refine ⟨(hk.2 6 _ (Ne.symm hs)).trans h1, (hk.2 7 _ (Ne.symm hs)).trans h2, ?_⟩
  rw [hk.2 5 _ (Ne.symm hs), hk.1 1 (by decide) (by decide) (by decide), hk.1 2 (by decide) (by decide) (by decide)]
  exact h3
theorem md_work_row {S : pv_Sh} {c : Nat} (hok : pv_ok S c) (hk64 : ∀ l, l < S.1 → 0 < S.2.1 l ∧ S.2.1 l < 62) {l : Nat} (hl : l < S.1) (hne : 0 < l → ∀ k, k < S.2.1 l → 0 < S.2.2 l k) (rec : Nat → Int32 → sw_S → Option sw_S) : ∀ (q k fuel : Nat) {Ar : Nat → Nat → Int32}, k + q = S.2.1 l → q < fuel → md_sh I Ar S → (∀ l', l' < l → ∀ i, i < S.2.1 l' → md_lab Ar S l' i) → (∀ i, i < k → md_lab Ar S l i) →
    ∃ Ar', b_X8_work_14 rec fuel m0 (nI l) (nI (pv_sum (S.2.2 l) k)) (nI k) (n, md_mk m0 I Ar Aj) = rec m0 (nI (l + 1)) (n, md_mk m0 I Ar' Aj) ∧ md_kl Ar Ar' ∧ md_sh I Ar' S ∧ ∀ l', l' < l + 1 → ∀ i, i < S.2.1 l' → md_lab Ar' S l' i := by
  intro q
  induction q with
  | zero =>
    intro k fuel Ar hk hf hsh hlow hrow
    obtain ⟨f, rfl⟩ : ∃ f, fuel = f + 1 := ⟨fuel - 1, by omega⟩
    show ∃ Ar', B_X8_work_14 rec (b_X8_work_14 rec f) m0 (nI l) _ (nI k) _ = _ ∧ _
    unfold B_X8_work_14
    obtain ⟨g1, g2, g3⟩ := hsh.2.2.2 l hl
    rw [md_r7, Option.bind_some, Option.bind_some, md_l4, sw_ix_nI g1.1 (by omega), Option.bind_some, Option.bind_some, g1.2.2.1, if_pos (nI_le (by omega) (by omega)), nI_1]
    refine ⟨Ar, rfl, fun _ _ _ _ => rfl, hsh, fun l' hl' i hi => ?_⟩
    by_cases hll : l' = l
    · subst hll; exact hrow i (by omega)
    · exact hlow l' (by omega) i hi
  | succ q ih =>
    intro k fuel Ar hk hf hsh hlow hrow
    obtain ⟨f, rfl⟩ : ∃ f, fuel = f + 1 := ⟨fuel - 1, by omega⟩
    show ∃ Ar', B_X8_work_14 rec (b_X8_work_14 rec f) m0 (nI l) _ (nI k) _ = _ ∧ _
    unfold B_X8_work_14
    obtain ⟨g1, g2, g3⟩ := hsh.2.2.2 l hl
    obtain ⟨z1, z2⟩ := g1.2.2.2 k (by omega)
    rw [md_r7, Option.bind_some, Option.bind_some, md_l4, sw_ix_nI g1.1 (by omega), Option.bind_some, Option.bind_some, g1.2.2.1, if_neg (nI_ge (by omega) (by omega)), md_ob, Option.bind_some, md_ix]
    obtain ⟨Ar1, r1, r2, r3⟩ := md_workNode (n := n) (m0 := m0) (I := I) (Aj := Aj) (Ar := Ar) hok hl (by omega) (fun l' hl' => by have := hk64 l' hl'; omega) z1 (fun l' hl' i hi => hlow l' (by omega) i hi) (fun l' hl' => hne (by omega) k (by omega))
    have e3 : Ar1 3 = Ar 3 := r3.1 3 (by decide) (by decide) (by decide)
    have e4 : Ar1 4 = Ar 4 := r3.1 4 (by decide) (by decide) (by decide)
    have hsh1 : md_sh I Ar1 S := ⟨hsh.1, hsh.2.1, hsh.2.2.1, fun l' hl' => by
      obtain ⟨p1, p2, p3⟩ := hsh.2.2.2 l' hl'
      exact ⟨⟨p1.1, p1.2.1, by rw [e4]; exact p1.2.2.1, by rw [e3]; exact p1.2.2.2⟩, p2, p3⟩⟩
    rw [r1, Option.bind_some, md_r6, Option.bind_some, Option.bind_some, md_l3, sw_ix_nI (by have := hsh.2.2.1; omega) (by omega), Option.bind_some, Option.bind_some, e3, z1, nI_add, nI_1]
    obtain ⟨Ar', s1, s2, s3, s4⟩ := ih (k + 1) f (Ar := Ar1) (by omega) (by omega) hsh1 (fun l' hl' i hi => (hlow l' hl' i hi).kl r3 (by have := hk64 l' (by omega); omega)) (fun i hi => by
      by_cases hik : i = k
      · subst hik; exact r2
      · exact (hrow i (by omega)).kl r3 (by omega))
    exact ⟨Ar', s1, fun t a b c => (s2 t a b c).trans (r3.1 t a b c), s3, s4⟩
theorem md_work_loop {S : pv_Sh} {c : Nat} (hok : pv_ok S c) (hk64 : ∀ l, l < S.1 → 0 < S.2.1 l ∧ S.2.1 l < 62) (hne : ∀ l, 0 < l → l < S.1 → ∀ k, k < S.2.1 l → 0 < S.2.2 l k) : ∀ (q l fuel : Nat) {Ar : Nat → Nat → Int32}, l + q = S.1 → q < fuel → md_sh I Ar S → (∀ l', l' < l → ∀ i, i < S.2.1 l' → md_lab Ar S l' i) →
    ∃ Ar', b_X8_work_2 fuel m0 (nI l) (n, md_mk m0 I Ar Aj) = some (n, md_mk m0 I Ar' Aj) ∧ md_kl Ar Ar' ∧ md_sh I Ar' S ∧ ∀ l', l' < S.1 → ∀ i, i < S.2.1 l' → md_lab Ar' S l' i := by
  intro q
  induction q with
  | zero =>
    intro l fuel Ar hl hf hsh hlow
    obtain ⟨f, rfl⟩ : ∃ f, fuel = f + 1 := ⟨fuel - 1, by omega⟩
    show ∃ Ar', B_X8_work_2 (b_X8_work_2 f) m0 (nI l) _ = _ ∧ _
    unfold B_X8_work_2
    have := hsh.2.2.1
    rw [md_g5, Option.bind_some, hsh.1, if_pos (nI_le (by omega) (by omega))]
    exact ⟨Ar, rfl, fun _ _ _ _ => rfl, hsh, fun l' hl' i hi => hlow l' (by omega) i hi⟩
  | succ q ih =>
    intro l fuel Ar hl hf hsh hlow
    obtain ⟨f, rfl⟩ : ∃ f, fuel = f + 1 := ⟨fuel - 1, by omega⟩
    show ∃ Ar', B_X8_work_2 (b_X8_work_2 f) m0 (nI l) _ = _ ∧ _
    unfold B_X8_work_2
    have := hsh.2.2.1
    rw [md_g5, Option.bind_some, hsh.1, if_neg (nI_ge (by omega) (by omega))]
    obtain ⟨Ar1, r1, r2, r3, r4⟩ := md_work_row (n := n) (m0 := m0) (Aj := Aj) hok hk64 (l := l) (by omega) (fun h0 => hne l h0 (by omega)) (b_X8_work_2 f) (S.2.1 l) 0 1000 (Ar := Ar) (by omega) (by have := hk64 l (by omega); omega) hsh hlow (fun i hi => by omega)
    rw [show pv_sum (S.2.2 l) 0 = 0 from rfl, nI_0] at r1
    rw [r1]
    obtain ⟨Ar', s1, s2, s3, s4⟩ := ih (l + 1) f (Ar := Ar1) (by omega) (by omega) r3 r4
    exact ⟨Ar', s1, fun t a b c => (s2 t a b c).trans (r2 t a b c), s3, s4⟩
theorem md_work {Ar : Nat → Nat → Int32} {S : pv_Sh} {c : Nat} (hok : pv_ok S c) (hsh : md_sh I Ar S) (hne : ∀ l, 0 < l → l < S.1 → ∀ k, k < S.2.1 l → 0 < S.2.2 l k) :
    ∃ Ar', f_X8_work m0 (n, md_mk m0 I Ar Aj) = some (n, md_mk m0 I Ar' Aj) ∧ md_kl Ar Ar' ∧ md_sh I Ar' S ∧ ∀ l', l' < S.1 → ∀ i, i < S.2.1 l' → md_lab Ar' S l' i := by
  unfold f_X8_work
  have h7 := hsh.2.2.1
  exact md_work_loop hok (fun l hl => (hsh.2.2.2 l hl).2) hne S.1 0 1000 (by omega) (by omega) hsh (fun l' hl' => by omega)
end M3
