/-! THE REFERENCE'S STACK -/
section RR
variable {n m0 : Nat} {S : pv_Sh} {Ek Ev : Nat → Int32}
theorem rp_push {l f0 nz top : Nat} {st en : Int64} (hl : l < 7) (hnz : nz ≤ 5) (hf0 : f0 + nz ≤ 62) (htop : top + 5 ≤ 60) (hfi : ∀ j, j < nz → pv_fi S.2.2 l (f0 + j) < 61) {I : Nat → Int32} : ∀ (r fuel : Nat) {Ar : Nat → Nat → Int32} {Aj : Nat → Nat → Int64} {v8 : Int64}, r ≤ nz → r < fuel → Ar 1 = Ek → (∀ j, j < nz → Ar 6 (64 * l + (f0 + j)) = nI (pv_fi S.2.2 l (f0 + j))) → (0 < r → v8 = pr_ce S.2.2 Ek l f0 nz en (r - 1)) →
    ∃ Ar' Aj', b_X8_tellNode_116 fuel m0 (nI (l + 1)) (nI f0) st v8 (nI (top + (nz - r))) (nI r - 1) (n, md_mk m0 I Ar Aj) = some (nI (top + nz), (n, md_mk m0 I Ar' Aj')) ∧ (∀ t, t ≠ 9 → Ar' t = Ar t) ∧ (∀ t, t ≠ 10 → t ≠ 11 → Aj' t = Aj t) ∧ (∀ p, p < top + (nz - r) → Ar' 9 p = Ar 9 p ∧ Aj' 10 p = Aj 10 p ∧ Aj' 11 p = Aj 11 p) ∧ ∀ j, j < r → Ar' 9 (top + (nz - 1 - j)) = nI (64 * l + (f0 + j)) ∧ Aj' 10 (top + (nz - 1 - j)) = pr_cf S.2.2 Ek l f0 st j ∧ Aj' 11 (top + (nz - 1 - j)) = pr_ce S.2.2 Ek l f0 nz en j := by
  intro r
  induction r with
  | zero =>
    intro fuel Ar Aj v8 hr hf h1 h6 hv
    obtain ⟨f, rfl⟩ : ∃ f, fuel = f + 1 := ⟨fuel - 1, by omega⟩
    refine ⟨Ar, Aj, ?_, fun _ _ => rfl, fun _ _ _ => rfl, fun _ _ => ⟨rfl, rfl, rfl⟩, fun j hj => by omega⟩
    show B_X8_tellNode_116 _ _ _ _ _ _ _ _ _ = _
    unfold B_X8_tellNode_116
    rw [if_pos (by decide), Nat.sub_zero]
  | succ j ih =>
    intro fuel Ar Aj v8 hr hf h1 h6 hv
    obtain ⟨f, rfl⟩ : ∃ f, fuel = f + 1 := ⟨fuel - 1, by omega⟩
    have hv8 := hv (by omega)
    rw [Nat.add_sub_cancel] at hv8
    have hix : (64 * (nI (l + 1) - 1) + nI f0 + nI j : Int32) = nI (64 * l + (f0 + j)) := by rw [nI_pred, md_ix, nI_add]; congr 1; omega
    have hA1 : md_u Ar 9 (top + (nz - (j + 1))) (nI (64 * l + (f0 + j))) 1 = Ek := by rw [← h1]; funext i; simp [md_u]
    have hA6 : ∀ j', j' < nz → md_u Ar 9 (top + (nz - (j + 1))) (nI (64 * l + (f0 + j))) 6 (64 * l + (f0 + j')) = nI (pv_fi S.2.2 l (f0 + j')) := fun j' hj' => by rw [← h6 j' hj']; simp [md_u]
    obtain ⟨Ar', Aj', e, q1, q2, q3, q4⟩ := ih f (Ar := md_u Ar 9 (top + (nz - (j + 1))) (nI (64 * l + (f0 + j)))) (Aj := md_u (md_u Aj 10 (top + (nz - (j + 1))) (pr_cf S.2.2 Ek l f0 st j)) 11 (top + (nz - (j + 1))) v8) (v8 := (Ek (pv_fi S.2.2 l (f0 + j))).toInt64) (by omega) (by omega) hA1 hA6 (fun hj0 => by
      unfold pr_ce
      rw [if_pos (by omega), show j - 1 + 1 = j by omega])
    refine ⟨Ar', Aj', ?_, fun t ht => by rw [q1 t ht]; funext i; simp [md_u, ht], fun t h10 h11 => by rw [q2 t h10 h11]; funext i; simp [md_u, h10, h11], fun p hp => ?_, fun j' hj' => ?_⟩
    · have h173 : b_X8_tellNode_173 (b_X8_tellNode_116 f) m0 (nI (l + 1)) (nI f0) st v8 (nI (top + (nz - (j + 1)))) (nI j) (nI (64 * l + (f0 + j))) (pr_cf S.2.2 Ek l f0 st j) (nI (top + (nz - (j + 1)))) (some (m0 + 10)) (n, md_mk m0 I (md_u Ar 9 (top + (nz - (j + 1))) (nI (64 * l + (f0 + j)))) Aj) = some (nI (top + nz), (n, md_mk m0 I Ar' Aj')) := by
        unfold b_X8_tellNode_173
        rw [Option.bind_some, md_s10, sw_ix_nI (by omega) (by decide), Option.bind_some, Option.bind_some, md_r15, Option.bind_some, Option.bind_some, md_s11, sw_ix_nI (by omega) (by decide), Option.bind_some, Option.bind_some, md_r3, Option.bind_some, md_r9, Option.bind_some, Option.bind_some, md_l6, sw_ix_nI (by omega) (by decide), Option.bind_some, Option.bind_some, hA6 j (by omega), Option.bind_some, md_l1, sw_ix_nI (hfi j (by omega)) (by decide), Option.bind_some, Option.bind_some, hA1, nI_1, show top + (nz - (j + 1)) + 1 = top + (nz - j) by omega, ← Int32.sub_eq_add_neg]
        exact e
      show B_X8_tellNode_116 _ _ _ _ _ _ _ _ _ = _
      unfold B_X8_tellNode_116
      rw [nI_pred, if_neg (nI_pos (by omega)), md_r13, Option.bind_some, Option.bind_some, hix, md_s9, sw_ix_nI (by omega) (by decide), Option.bind_some, Option.bind_some, md_r14, Option.bind_some]
      unfold pr_cf at h173
      by_cases hj0 : j = 0
      · rw [if_pos hj0] at h173
        rw [if_pos (by rw [hj0]; rfl)]
        exact h173
      · rw [if_neg hj0] at h173
        rw [if_neg (nI_ne0 (by omega) (by omega)), md_r3, Option.bind_some, md_r9, Option.bind_some, Option.bind_some, md_l6, sw_ix_nI (by omega) (by decide), Option.bind_some, Option.bind_some, hA6 j (by omega), Option.bind_some, md_l1, sw_ix_nI (hfi j (by omega)) (by decide), Option.bind_some, Option.bind_some, hA1]
        exact h173
    · obtain ⟨p1, p2, p3⟩ := q3 p (by omega)
      rw [p1, p2, p3]
      have hne : p ≠ top + (nz - (j + 1)) := by omega
      simp [md_u, hne]
    · by_cases hjj : j' = j
      · subst hjj
        obtain ⟨p1, p2, p3⟩ := q3 (top + (nz - (j' + 1))) (by omega)
        rw [show top + (nz - 1 - j') = top + (nz - (j' + 1)) by omega, p1, p2, p3, hv8]
        simp [md_u]
      · exact q4 j' (by omega)
def rp_B : Nat → Nat
  | 0 => 1
  | l + 1 => 1 + 5 * rp_B l
def rp_i (q : Int64 → Int64 → Bool) (S : pv_Sh) (Ek Ev : Nat → Int32) (l k : Nat) (fr en : Int64) : List Int32 := if l + 1 = S.1 then pr_f q S.2.2 Ek Ev l k fr en else if q fr en = true then pr_lo S.2.2 Ek Ev l k else pr_f q S.2.2 Ek Ev l k fr en
variable {F c : Nat}
theorem rp_tn {l k top : Nat} (hw : pv_wf F S c) (hc : c ≤ 60) (hl : l < S.1) (hk : k < S.2.1 l) (v0 : Int32) {I : Nat → Int32} {Ar : Nat → Nat → Int32} {Aj : Nat → Nat → Int64} (h : rt I Ar S Ek Ev) : f_X8_tellNode m0 (nI (64 * l + k)) v0 (n, md_mk m0 I Ar Aj) = b_X8_tellNode_34 m0 v0 (nI l) (nI (S.2.2 l k)) (nI (pv_sum (S.2.2 l) k)) (if l = 0 then 1 else 2) m0 (n, md_mk m0 I Ar Aj) := by
  obtain ⟨hS5, hC⟩ := (hw.x 0 0).cnt (by omega)
  have := hC l hl
  unfold f_X8_tellNode
  have hd : nI (64 * l + k) / 64 = nI l := by
    show nI (64 * l + k) / nI 64 = _
    rw [pk_div (by omega) (by omega) (by omega)]; congr 1; omega
  have hr : nI (64 * l + k) - nI (64 * l + k) / 64 * 64 = nI k := by
    show nI (64 * l + k) - nI (64 * l + k) / nI 64 * nI 64 = _
    rw [pk_rem (by omega) (by omega) (by omega)]; congr 1; omega
  rw [md_r6, Option.bind_some, Option.bind_some, md_l3, sw_ix_nI (by omega) (by decide), Option.bind_some, Option.bind_some, (h.2.2.2 l hl k hk).1, md_ob, Option.bind_some, hr, hd]
  have hf : f_X8_firstChild m0 (nI l) (nI k) (n, md_mk m0 I Ar Aj) = some (nI (pv_sum (S.2.2 l) k)) := rp_first h hl (by omega) (by omega) (by omega) k 0 1000 (by omega) (by omega)
  rw [hf, Option.bind_some]
  by_cases hl0 : l = 0
  · rw [if_pos hl0, if_pos (by rw [hl0]; rfl)]
  · rw [if_neg hl0, if_neg (nI_ne0 (by omega) (by omega))]
theorem rp_run (hw : pv_wf F S c) (hc : c ≤ 60) (a b cn : Int32) : ∀ (l : Nat) {k top : Nat} {I : Nat → Int32} {Ar : Nat → Nat → Int32} {Aj : Nat → Nat → Int64} {L : List Int32}, l < S.1 → k < S.2.1 l → top + 5 * l + 1 ≤ 60 → rt I Ar S Ek Ev → rp I Ar L → Ar 9 top = nI (64 * l + k) → (L ++ rp_i (pr_q a b cn) S Ek Ev l k (Aj 10 top) (Aj 11 top)).length ≤ 600 →
    ∃ m I' Ar' Aj', m ≤ rp_B l ∧ (∀ fuel, b_X8_prove_48 (fuel + m) m0 a b cn (nI (top + 1)) (n, md_mk m0 I Ar Aj) = b_X8_prove_48 fuel m0 a b cn (nI top) (n, md_mk m0 I' Ar' Aj')) ∧ rp I' Ar' (L ++ rp_i (pr_q a b cn) S Ek Ev l k (Aj 10 top) (Aj 11 top)) ∧ rp_fr top I I' Ar Ar' Aj Aj' := by
  obtain ⟨hS5, hC⟩ := (hw.x 0 0).cnt (by omega)
  have hF := hw.2.1
  have h0 : 0 < S.1 := hw.2.2.1
  have hC1 : S.2.1 (S.1 - 1) = 1 := hw.2.2.2.1
  have hok := hw.ok (by omega)
  -- one turn of the loop at a node
  have hturn : ∀ {l k top : Nat} {I : Nat → Int32} {Ar : Nat → Nat → Int32} {Aj : Nat → Nat → Int64}, l < S.1 → k < S.2.1 l → top < 60 → rt I Ar S Ek Ev → Ar 9 top = nI (64 * l + k) → ∀ fuel, b_X8_prove_48 (fuel + 1) m0 a b cn (nI (top + 1)) (n, md_mk m0 I Ar Aj) = b_X8_prove_84 (b_X8_prove_48 fuel) m0 a b cn (nI top) (nI (64 * l + k)) (if l + 1 = S.1 then 1 else 0) (n, md_mk m0 I Ar Aj) := by
    intro l k top I Ar Aj hl hk ht hrt h9 fuel
    have hcl := hC l hl
    show B_X8_prove_48 _ _ _ _ _ _ _ = _
    unfold B_X8_prove_48
    rw [if_neg (nI_nle (by omega) (by omega)), md_r13, Option.bind_some, Option.bind_some, pk_m1, md_l9, sw_ix_nI ht (by decide), Option.bind_some, Option.bind_some, h9, md_g5, Option.bind_some, hrt.1]
    have h64 : (64 * (nI S.1 - 1) : Int32) = nI (64 * (S.1 - 1)) := by
      obtain ⟨q, hq⟩ : ∃ q, S.1 = q + 1 := ⟨S.1 - 1, by omega⟩
      rw [hq, nI_pred, Nat.add_sub_cancel]
      exact pk_mul 64 q
    rw [h64]
    by_cases hr : l + 1 = S.1
    · rw [if_pos hr, if_pos]
      have : k = 0 := by rw [show l = S.1 - 1 by omega, hC1] at hk; omega
      rw [this, show l = S.1 - 1 by omega]; rfl
    · rw [if_neg hr, if_neg]
      intro q
      have := (nI_eq (by omega) (by omega)).mp q
      omega
  intro l
  induction l with
  | zero =>
    intro k top I Ar Aj L hl hk ht hrt hrp h9 hL
    have hcl := hC 0 hl
    have hz := hw.2.2.2.2.2.2.2.1 0 k hl hk
    have hend : pv_sum (S.2.2 0) k + S.2.2 0 k ≤ 60 := by
      have := pv_sum_mono (S.2.2 0) (k + 1) (S.2.1 0 - (k + 1))
      rw [show k + 1 + (S.2.1 0 - (k + 1)) = S.2.1 0 by omega, hw.2.2.2.2.1] at this
      have h2 : pv_sum (S.2.2 0) (k + 1) = pv_sum (S.2.2 0) k + S.2.2 0 k := rfl
      omega
    by_cases hlo : ¬ 0 + 1 = S.1 ∧ pr_q a b cn (Aj 10 top) (Aj 11 top) = true
    · have hi : rp_i (pr_q a b cn) S Ek Ev 0 k (Aj 10 top) (Aj 11 top) = [0, Ek (pv_fi S.2.2 0 k), pv_dg S.2.2 Ek Ev 0 k, pv_cn S.2.2 0 k] := by unfold rp_i; rw [if_neg hlo.1, if_pos hlo.2]; rfl
      rw [hi] at hL ⊢
      simp only [List.length_append, List.length_cons, List.length_nil] at hL
      have hfi := hok.fi 0 (by omega) k hk
      obtain ⟨I1, Ar1, e1, w1, t1⟩ := rp_tell (n := n) (m0 := m0) hrp (by omega) 0 Aj
      obtain ⟨I2, Ar2, e2, w2, t2⟩ := rp_tell (n := n) (m0 := m0) w1 (by simp; omega) (Ek (pv_fi S.2.2 0 k)) Aj
      obtain ⟨I3, Ar3, e3, w3, t3⟩ := rp_tell (n := n) (m0 := m0) w2 (by simp; omega) (pv_dg S.2.2 Ek Ev 0 k) Aj
      obtain ⟨I4, Ar4, e4, w4, t4⟩ := rp_tell (n := n) (m0 := m0) w3 (by simp; omega) (pv_cn S.2.2 0 k) Aj
      obtain ⟨r3, r6, r7, r5⟩ := hrt.2.2.2 0 hl k hk
      refine ⟨1, I4, Ar4, Aj, Nat.le_refl _, fun fuel => ?_, by simpa using w4, (((t1.tr t2).tr t3).tr t4).fr⟩
      rw [hturn hl hk (by omega) hrt h9 fuel]
      unfold b_X8_prove_84
      rw [if_neg hlo.1, if_pos rfl, md_r14, Option.bind_some, Option.bind_some, md_l10, sw_ix_nI (by omega) (by decide), Option.bind_some, Option.bind_some, md_r15, Option.bind_some, Option.bind_some, md_l11, sw_ix_nI (by omega) (by decide), Option.bind_some, Option.bind_some, pr_isLeft, Option.bind_some, if_pos hlo.2, if_neg (by decide), md_ob, Option.bind_some, e1, Option.bind_some, md_r3, Option.bind_some, md_r9, Option.bind_some, Option.bind_some, md_l6, sw_ix_nI (by omega) (by decide), Option.bind_some, Option.bind_some, t1.2 6 (by decide), r6, Option.bind_some, md_l1, sw_ix_nI (by omega) (by decide), Option.bind_some, Option.bind_some, t1.2 1 (by decide), hrt.2.1, md_ob, Option.bind_some, e2, Option.bind_some, md_r8, Option.bind_some, Option.bind_some, md_l5, sw_ix_nI (by omega) (by decide), Option.bind_some, Option.bind_some, (t1.tr t2).2 5 (by decide), r5, md_ob, Option.bind_some, e3, Option.bind_some, md_r10, Option.bind_some, Option.bind_some, md_l7, sw_ix_nI (by omega) (by decide), Option.bind_some, Option.bind_some, ((t1.tr t2).tr t3).2 7 (by decide), r7, md_ob, Option.bind_some, e4, Option.bind_some]
      rfl
    · have hi : rp_i (pr_q a b cn) S Ek Ev 0 k (Aj 10 top) (Aj 11 top) = 1 :: nI (S.2.2 0 k) :: pr_c (fun j => [Ek (pv_sum (S.2.2 0) k + j), Ev (pv_sum (S.2.2 0) k + j)]) 0 (S.2.2 0 k) := by
        unfold rp_i
        by_cases q1 : 0 + 1 = S.1
        · rw [if_pos q1]; rfl
        · rw [if_neg q1, if_neg (fun q2 => hlo ⟨q1, q2⟩)]; rfl
      rw [hi] at hL ⊢
      simp only [List.length_append, List.length_cons] at hL
      obtain ⟨I1, Ar1, e1, w1, t1⟩ := rp_tell (n := n) (m0 := m0) hrp (by omega) 1 Aj
      obtain ⟨I2, Ar2, e2, w2, t2⟩ := rp_tell (n := n) (m0 := m0) w1 (by simp; omega) (nI (S.2.2 0 k)) Aj
      have t12 := t1.tr t2
      obtain ⟨I3, Ar3, e3, w3, t3⟩ := rp_leaf (n := n) (m0 := m0) (Ek := Ek) (Ev := Ev) I (nI top) hend (Aj := Aj) (S.2.2 0 k) 0 1000 (by omega) (by omega) (by rw [t12.2 1 (by decide)]; exact hrt.2.1) (by rw [t12.2 2 (by decide)]; exact hrt.2.2.1) w2 (by simp; omega)
      have h160 : ∀ fuel, b_X8_prove_160 (b_X8_prove_48 fuel) m0 a b cn (nI top) (nI (64 * 0 + k)) (n, md_mk m0 I Ar Aj) = b_X8_prove_48 fuel m0 a b cn (nI top) (n, md_mk m0 I3 Ar3 Aj) := by
        intro fuel
        unfold b_X8_prove_160
        rw [md_ob, Option.bind_some, rp_tn (top := top) hw hc hl hk (nI top) hrt]
        unfold b_X8_tellNode_34
        rw [if_pos rfl, md_ob, Option.bind_some, e1, Option.bind_some, md_ob, Option.bind_some, e2, Option.bind_some, if_pos (show nI 0 = 0 from rfl)]
        rw [Nat.add_zero] at e3
        rw [e3, cw_b2]; rfl
      refine ⟨1, I3, Ar3, Aj, Nat.le_refl _, fun fuel => ?_, by simpa using w3, (t12.tr t3).fr⟩
      rw [hturn hl hk (by omega) hrt h9 fuel]
      unfold b_X8_prove_84
      by_cases q1 : 0 + 1 = S.1
      · rw [if_pos q1, if_neg (by decide)]; exact h160 fuel
      · rw [if_neg q1, if_pos rfl, md_r14, Option.bind_some, Option.bind_some, md_l10, sw_ix_nI (by omega) (by decide), Option.bind_some, Option.bind_some, md_r15, Option.bind_some, Option.bind_some, md_l11, sw_ix_nI (by omega) (by decide), Option.bind_some, Option.bind_some, pr_isLeft, Option.bind_some, if_neg (fun q2 => hlo ⟨q1, q2⟩), if_pos rfl]
        exact h160 fuel
  | succ l ih =>
    intro k top I Ar Aj L hl hk ht hrt hrp h9 hL
    have hcl := hC (l + 1) hl
    have hcl0 := hC l (by omega)
    have hz := hw.2.2.2.2.2.2.2.1 (l + 1) k hl hk
    have hzp := hw.pos hl hk (by omega)
    have hkid : ∀ j, j < S.2.2 (l + 1) k → pv_sum (S.2.2 (l + 1)) k + j < S.2.1 l := fun j hj => hw.sumC hl hk hj
    by_cases hlo : ¬ l + 1 + 1 = S.1 ∧ pr_q a b cn (Aj 10 top) (Aj 11 top) = true
    · have hi : rp_i (pr_q a b cn) S Ek Ev (l + 1) k (Aj 10 top) (Aj 11 top) = [0, Ek (pv_fi S.2.2 (l + 1) k), pv_dg S.2.2 Ek Ev (l + 1) k, pv_cn S.2.2 (l + 1) k] := by unfold rp_i; rw [if_neg hlo.1, if_pos hlo.2]; rfl
      rw [hi] at hL ⊢
      simp only [List.length_append, List.length_cons, List.length_nil] at hL
      have hfi := hok.fi (l + 1) (by omega) k hk
      obtain ⟨I1, Ar1, e1, w1, t1⟩ := rp_tell (n := n) (m0 := m0) hrp (by omega) 0 Aj
      obtain ⟨I2, Ar2, e2, w2, t2⟩ := rp_tell (n := n) (m0 := m0) w1 (by simp; omega) (Ek (pv_fi S.2.2 (l + 1) k)) Aj
      obtain ⟨I3, Ar3, e3, w3, t3⟩ := rp_tell (n := n) (m0 := m0) w2 (by simp; omega) (pv_dg S.2.2 Ek Ev (l + 1) k) Aj
      obtain ⟨I4, Ar4, e4, w4, t4⟩ := rp_tell (n := n) (m0 := m0) w3 (by simp; omega) (pv_cn S.2.2 (l + 1) k) Aj
      obtain ⟨r3, r6, r7, r5⟩ := hrt.2.2.2 (l + 1) hl k hk
      refine ⟨1, I4, Ar4, Aj, by unfold rp_B; omega, fun fuel => ?_, by simpa using w4, (((t1.tr t2).tr t3).tr t4).fr⟩
      rw [hturn hl hk (by omega) hrt h9 fuel]
      unfold b_X8_prove_84
      rw [if_neg hlo.1, if_pos rfl, md_r14, Option.bind_some, Option.bind_some, md_l10, sw_ix_nI (by omega) (by decide), Option.bind_some, Option.bind_some, md_r15, Option.bind_some, Option.bind_some, md_l11, sw_ix_nI (by omega) (by decide), Option.bind_some, Option.bind_some, pr_isLeft, Option.bind_some, if_pos hlo.2, if_neg (by decide), md_ob, Option.bind_some, e1, Option.bind_some, md_r3, Option.bind_some, md_r9, Option.bind_some, Option.bind_some, md_l6, sw_ix_nI (by omega) (by decide), Option.bind_some, Option.bind_some, t1.2 6 (by decide), r6, Option.bind_some, md_l1, sw_ix_nI (by omega) (by decide), Option.bind_some, Option.bind_some, t1.2 1 (by decide), hrt.2.1, md_ob, Option.bind_some, e2, Option.bind_some, md_r8, Option.bind_some, Option.bind_some, md_l5, sw_ix_nI (by omega) (by decide), Option.bind_some, Option.bind_some, (t1.tr t2).2 5 (by decide), r5, md_ob, Option.bind_some, e3, Option.bind_some, md_r10, Option.bind_some, Option.bind_some, md_l7, sw_ix_nI (by omega) (by decide), Option.bind_some, Option.bind_some, ((t1.tr t2).tr t3).2 7 (by decide), r7, md_ob, Option.bind_some, e4, Option.bind_some]
      rfl
    · have hi : rp_i (pr_q a b cn) S Ek Ev (l + 1) k (Aj 10 top) (Aj 11 top) = 2 :: nI (S.2.2 (l + 1) k) :: pr_c (pr_g (pr_q a b cn) S.2.2 Ek Ev l k (Aj 10 top) (Aj 11 top)) 0 (S.2.2 (l + 1) k) := by
        unfold rp_i
        by_cases q1 : l + 1 + 1 = S.1
        · rw [if_pos q1]; rfl
        · rw [if_neg q1, if_neg (fun q2 => hlo ⟨q1, q2⟩)]; rfl
      rw [hi] at hL ⊢
      simp only [List.length_append, List.length_cons] at hL
      obtain ⟨I1, Ar1, e1, w1, t1⟩ := rp_tell (n := n) (m0 := m0) hrp (by omega) 2 Aj
      obtain ⟨I2, Ar2, e2, w2, t2⟩ := rp_tell (n := n) (m0 := m0) w1 (by simp; omega) (nI (S.2.2 (l + 1) k)) Aj
      have t12 := t1.tr t2
      have hrt2 := hrt.fr (t12.fr (top := top) (Aj := Aj))
      have hkl := hkid (S.2.2 (l + 1) k - 1) (by omega)
      obtain ⟨Ar3, Aj3, e3, p1, p2, p3, p4⟩ := rp_push (n := n) (m0 := m0) (S := S) (Ek := Ek) (l := l) (f0 := pv_sum (S.2.2 (l + 1)) k) (nz := S.2.2 (l + 1) k) (top := top) (st := Aj 10 top) (en := Aj 11 top) (I := I2) (by omega) (by omega) (by omega) (by omega) (fun j hj => Nat.lt_of_lt_of_le (hok.fi l (by omega) _ (hkid j hj)) (by omega)) (S.2.2 (l + 1) k) 1000 (Ar := Ar2) (Aj := Aj) (v8 := Aj 11 top) (Nat.le_refl _) (by omega) hrt2.2.1 (fun j hj => (hrt2.2.2.2 l (by omega) _ (hkid j hj)).2.1) (fun _ => by unfold pr_ce; rw [if_neg (by omega)])
      rw [show top + (S.2.2 (l + 1) k - S.2.2 (l + 1) k) = top by omega] at e3 p3
      have fr3 : rp_fr top I I2 Ar Ar3 Aj Aj3 := ⟨t12.1, fun t a8 a9 => by rw [p1 t a9, t12.2 t a8], p2, fun i hi => by obtain ⟨x1, x2, x3⟩ := p3 i hi; exact ⟨by rw [x1, t12.2 9 (by decide)], x2, x3⟩⟩
      have hrt3 := hrt.fr fr3
      have hrp3 : rp I2 Ar3 (L ++ [2] ++ [nI (S.2.2 (l + 1) k)]) := ⟨w2.1, by rw [p1 8 (by decide)]; exact w2.2⟩
      have hkids : ∀ (r j : Nat) {I' : Nat → Int32} {Ar' : Nat → Nat → Int32} {Aj' : Nat → Nat → Int64} {L' : List Int32}, j + r = S.2.2 (l + 1) k → rt I' Ar' S Ek Ev → rp I' Ar' L' → (∀ j', j ≤ j' → j' < S.2.2 (l + 1) k → Ar' 9 (top + (S.2.2 (l + 1) k - 1 - j')) = nI (64 * l + (pv_sum (S.2.2 (l + 1)) k + j')) ∧ Aj' 10 (top + (S.2.2 (l + 1) k - 1 - j')) = pr_cf S.2.2 Ek l (pv_sum (S.2.2 (l + 1)) k) (Aj 10 top) j' ∧ Aj' 11 (top + (S.2.2 (l + 1) k - 1 - j')) = pr_ce S.2.2 Ek l (pv_sum (S.2.2 (l + 1)) k) (S.2.2 (l + 1) k) (Aj 11 top) j') → (L' ++ pr_c (pr_g (pr_q a b cn) S.2.2 Ek Ev l k (Aj 10 top) (Aj 11 top)) j r).length ≤ 600 →
          ∃ m I'' Ar'' Aj'', m ≤ r * rp_B l ∧ (∀ fuel, b_X8_prove_48 (fuel + m) m0 a b cn (nI (top + r)) (n, md_mk m0 I' Ar' Aj') = b_X8_prove_48 fuel m0 a b cn (nI top) (n, md_mk m0 I'' Ar'' Aj'')) ∧ rp I'' Ar'' (L' ++ pr_c (pr_g (pr_q a b cn) S.2.2 Ek Ev l k (Aj 10 top) (Aj 11 top)) j r) ∧ rp_fr top I' I'' Ar' Ar'' Aj' Aj'' := by
        intro r
        induction r with
        | zero =>
          intro j I' Ar' Aj' L' hj hrt' hrp' hst hL'
          exact ⟨0, I', Ar', Aj', by omega, fun fuel => rfl, by simpa [pr_c] using hrp', fun _ _ => rfl, fun _ _ _ => rfl, fun _ _ _ => rfl, fun _ _ => ⟨rfl, rfl, rfl⟩⟩
        | succ r ihr =>
          intro j I' Ar' Aj' L' hj hrt' hrp' hst hL'
          obtain ⟨s9, s10, s11⟩ := hst j (Nat.le_refl _) (by omega)
          rw [show S.2.2 (l + 1) k - 1 - j = r by omega] at s9 s10 s11
          have hig : rp_i (pr_q a b cn) S Ek Ev l (pv_sum (S.2.2 (l + 1)) k + j) (Aj' 10 (top + r)) (Aj' 11 (top + r)) = pr_g (pr_q a b cn) S.2.2 Ek Ev l k (Aj 10 top) (Aj 11 top) j := by
            unfold rp_i
            rw [if_neg (by omega), s10, s11]; rfl
          simp only [pr_c, List.length_append] at hL'
          obtain ⟨m1, I1', Ar1', Aj1', b1, f1, g1, k1⟩ := ih (k := pv_sum (S.2.2 (l + 1)) k + j) (top := top + r) (L := L') (by omega) (hkid j (by omega)) (by omega) hrt' hrp' s9 (by rw [hig, List.length_append]; omega)
          rw [hig] at g1
          obtain ⟨m2, I2', Ar2', Aj2', b2, f2, g2, k2⟩ := ihr (j + 1) (by omega) (hrt'.fr k1) g1 (fun j' hj1 hj2 => by
            obtain ⟨x9, x10, x11⟩ := hst j' (by omega) hj2
            obtain ⟨y9, y10, y11⟩ := k1.2.2.2 (top + (S.2.2 (l + 1) k - 1 - j')) (by omega)
            exact ⟨y9.trans x9, y10.trans x10, y11.trans x11⟩) (by simp only [List.length_append]; omega)
          refine ⟨m2 + m1, I2', Ar2', Aj2', ?_, fun fuel => ?_, by rw [pr_c, ← List.append_assoc]; exact g2, (k1.le (by omega)).tr k2⟩
          · rw [Nat.succ_mul]; omega
          · rw [← Nat.add_assoc, show top + (r + 1) = top + r + 1 by omega, f1 (fuel + m2), f2 fuel]
      obtain ⟨m, I4, Ar4, Aj4, b4, f4, g4, k4⟩ := hkids (S.2.2 (l + 1) k) 0 (by omega) hrt3 hrp3 (fun j' _ hj' => p4 j' hj') (by simp; omega)
      have h160 : ∀ fuel, b_X8_prove_160 (b_X8_prove_48 (fuel + m)) m0 a b cn (nI top) (nI (64 * (l + 1) + k)) (n, md_mk m0 I Ar Aj) = b_X8_prove_48 fuel m0 a b cn (nI top) (n, md_mk m0 I4 Ar4 Aj4) := by
        intro fuel
        unfold b_X8_prove_160
        rw [md_ob, Option.bind_some, rp_tn (top := top) hw hc hl hk (nI top) hrt]
        unfold b_X8_tellNode_34
        rw [if_neg (by omega : ¬ l + 1 = 0), md_ob, Option.bind_some, e1, Option.bind_some, md_ob, Option.bind_some, e2, Option.bind_some, if_neg (nI_ne0 (by omega) (by omega)), md_r14, Option.bind_some, Option.bind_some, md_l10, sw_ix_nI (by omega) (by decide), Option.bind_some, Option.bind_some, md_r15, Option.bind_some, Option.bind_some, md_l11, sw_ix_nI (by omega) (by decide), Option.bind_some, Option.bind_some, e3, cw_b2]
        exact f4 fuel
      refine ⟨m + 1, I4, Ar4, Aj4, ?_, fun fuel => ?_, by simpa using g4, fr3.tr k4⟩
      · unfold rp_B
        have : S.2.2 (l + 1) k * rp_B l ≤ 5 * rp_B l := Nat.mul_le_mul_right _ (by omega)
        omega
      · rw [← Nat.add_assoc, hturn hl hk (by omega) hrt h9 (fuel + m)]
        unfold b_X8_prove_84
        by_cases q1 : l + 1 + 1 = S.1
        · rw [if_pos q1, if_neg (by decide)]; exact h160 fuel
        · rw [if_neg q1, if_pos rfl, md_r14, Option.bind_some, Option.bind_some, md_l10, sw_ix_nI (by omega) (by decide), Option.bind_some, Option.bind_some, md_r15, Option.bind_some, Option.bind_some, md_l11, sw_ix_nI (by omega) (by decide), Option.bind_some, Option.bind_some, pr_isLeft, Option.bind_some, if_neg (fun q2 => hlo ⟨q1, q2⟩), if_pos rfl]
          exact h160 fuel
/-- the proof of the whole tree -/
def pr_all (S : pv_Sh) (Ek Ev : Nat → Int32) (a b cn : Int32) : List Int32 := pr_f (pr_q a b cn) S.2.2 Ek Ev (S.1 - 1) 0 (-1099511627776) 1099511627776
theorem pr_all_len (hw : pv_wf F S c) (hc : c ≤ 60) (a b cn : Int32) : (pr_all S Ek Ev a b cn).length ≤ 240 := by
  have h0 : 0 < S.1 := hw.2.2.1
  have hC1 : S.2.1 (S.1 - 1) = 1 := hw.2.2.2.1
  exact Nat.le_trans (pr_len hw (S.1 - 1) (by omega) 0 (by omega) _ _) (pr_w_all hw hc)
theorem rp_B4 : ∀ l, l < 5 → rp_B l ≤ 781 := by decide
theorem md_prove {I : Nat → Int32} {Ar : Nat → Nat → Int32} {Aj : Nat → Nat → Int64} (hw : pv_wf F S c) (hc : c ≤ 60) (h : rt I Ar S Ek Ev) {a b : Int32} (hab : a ≤ b) (cn : Int32) :
    ∃ I' Ar' Aj', f_X8_prove m0 a b cn (n, md_mk m0 I Ar Aj) = some (nI (pr_all S Ek Ev a b cn).length, (n, md_mk m0 I' Ar' Aj')) ∧ rp I' Ar' (pr_all S Ek Ev a b cn) ∧ rp_fr 0 I I' Ar Ar' Aj Aj' := by
  obtain ⟨hS5, hC⟩ := (hw.x 0 0).cnt (by omega)
  have h0 : 0 < S.1 := hw.2.2.1
  have hC1 : S.2.1 (S.1 - 1) = 1 := hw.2.2.2.1
  have h64 : (64 * (nI S.1 - 1) : Int32) = nI (64 * (S.1 - 1) + 0) := by
    obtain ⟨q, hq⟩ : ∃ q, S.1 = q + 1 := ⟨S.1 - 1, by omega⟩
    rw [hq, nI_pred, Nat.add_sub_cancel]
    exact pk_mul 64 q
  have hi0 : sw_ix 0 60 = some 0 := by decide
  have fr0 : rp_fr 0 I (upd I 12 0) Ar (md_u Ar 9 0 (nI (64 * (S.1 - 1) + 0))) Aj (md_u (md_u Aj 10 0 (-1099511627776)) 11 0 1099511627776) :=
    ⟨fun j hj => pk_un hj, fun t _ h9 => by funext i; simp [md_u, h9], fun t h10 h11 => by funext i; simp [md_u, h10, h11], fun i hi => by omega⟩
  have hlen : (pr_all S Ek Ev a b cn).length ≤ 240 := pr_all_len hw hc a b cn
  have hit : rp_i (pr_q a b cn) S Ek Ev (S.1 - 1) 0 (-1099511627776) 1099511627776 = pr_all S Ek Ev a b cn := by unfold rp_i; rw [if_pos (by omega)]; rfl
  obtain ⟨m, I', Ar', Aj', bm, f1, g1, k1⟩ := rp_run (n := n) (m0 := m0) (Ek := Ek) (Ev := Ev) hw hc a b cn (S.1 - 1) (k := 0) (top := 0) (L := []) (I := upd I 12 0) (Ar := md_u Ar 9 0 (nI (64 * (S.1 - 1) + 0))) (Aj := md_u (md_u Aj 10 0 (-1099511627776)) 11 0 1099511627776) (by omega) (by omega) (by omega) (h.fr fr0) ⟨rfl, fun i hi => absurd hi (by simp)⟩ (by simp [md_u]) (by
    rw [show (md_u (md_u Aj 10 0 (-1099511627776)) 11 0 1099511627776) 10 0 = -1099511627776 by simp [md_u], show (md_u (md_u Aj 10 0 (-1099511627776)) 11 0 1099511627776) 11 0 = 1099511627776 by simp [md_u], hit, List.nil_append]; omega)
  rw [show (md_u (md_u Aj 10 0 (-1099511627776)) 11 0 1099511627776) 10 0 = -1099511627776 by simp [md_u], show (md_u (md_u Aj 10 0 (-1099511627776)) 11 0 1099511627776) 11 0 = 1099511627776 by simp [md_u], hit, List.nil_append] at g1
  refine ⟨I', Ar', Aj', ?_, g1, fr0.tr k1⟩
  unfold f_X8_prove
  rw [if_pos hab, md_p12, Option.bind_some, md_r13, Option.bind_some, md_g5, Option.bind_some, Option.bind_some, pk_un (by decide), h.1, h64, md_s9, hi0, Option.bind_some, Option.bind_some, md_r14, Option.bind_some, Option.bind_some, md_s10, hi0, Option.bind_some, Option.bind_some, md_r15, Option.bind_some, Option.bind_some, md_s11, hi0, Option.bind_some, Option.bind_some]
  have hm := rp_B4 (S.1 - 1) (by omega)
  obtain ⟨fu, hfu⟩ : ∃ fu, 1000 = (fu + 1) + m := ⟨999 - m, by omega⟩
  rw [hfu]
  rw [show (1 : Int32) = nI (0 + 1) from rfl, f1 (fu + 1)]
  show B_X8_prove_48 _ _ _ _ _ _ _ = _
  unfold B_X8_prove_48
  rw [if_pos (by decide), md_g12, Option.bind_some, g1.1]
end RR
