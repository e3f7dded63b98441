/-! THE REFERENCE'S remove -/
def pv_rem (F : Nat) (S : pv_Sh) (k : Nat) : pv_Sh := pv_top 3 (pv_stl ((F + 1) / 2) S.1 (pv_set S 0 k (S.2.2 0 k - 1)) 0 k)
def pv_delA (f : Nat → Int32) (i c : Nat) : Nat → Int32 := fun p => if i ≤ p ∧ p + 1 < c then f (p + 1) else f p
def pv_ed (f : Nat → Int32) (i : Nat) : Nat → Int32 := fun p => if p < i then f p else f (p + 1)
theorem pv_delA_ed {f : Nat → Int32} {i c p : Nat} (hp : p + 1 < c) : pv_delA f i c p = pv_ed f i p := by
  unfold pv_delA pv_ed
  by_cases h : p < i
  · rw [if_neg (by omega), if_pos h]
  · rw [if_pos (by omega), if_neg h]
theorem pv_wf.rem {F : Nat} {S : pv_Sh} {c k : Nat} (h : pv_wf F S c) (hk : k < S.2.1 0) (hz : 0 < S.2.2 0 k) : pv_wf F (pv_rem F S k) (c - 1) :=
  (pv_top_wf (pv_stl_wf S.1 (h.drop hk hz) (by exact h.2.2.1) (by exact hk) (by show S.1 - 0 ≤ S.1; omega)) 3 (by omega)).1
section M6
variable {n m0 : Nat} {Aj : Nat → Nat → Int64}
theorem md_stl_loop {F : Nat} : ∀ (f : Nat) {I : Nat → Int32} {Ar : Nat → Nat → Int32} {S : pv_Sh} {c l k fuel : Nat}, md_sh I Ar S → I 1 = nI ((F + 1) / 2) → pv_wfy F S c l k → c ≤ 61 → l < S.1 → k < S.2.1 l → S.1 - l ≤ f → f + 1 < fuel →
    ∃ Ar', b_X8_remove_95 fuel m0 (nI k) (nI l) 1 (n, md_mk m0 I Ar Aj) = b_X8_remove_161 1000 m0 (n, md_mk m0 I Ar' Aj) ∧ md_sh I Ar' (pv_stl ((F + 1) / 2) f S l k) ∧ md_k34 I I Ar Ar' := by
  intro f
  induction f with
  | zero => intro I Ar S c l k fuel h h1 hw hc hl hk hf; omega
  | succ f ih =>
    intro I Ar S c l k fuel h h1 hw hc hl hk hf hfu
    obtain ⟨fu, rfl⟩ : ∃ fu, fuel = fu + 1 := ⟨fuel - 1, by omega⟩
    show ∃ Ar', B_X8_remove_95 (b_X8_remove_95 fu) m0 (nI k) (nI l) 1 _ = _ ∧ _
    unfold B_X8_remove_95
    have h7 := h.2.2.1
    obtain ⟨hh, hhe⟩ : ∃ hh, S.1 = hh + 1 := ⟨S.1 - 1, by omega⟩
    rw [if_neg (by decide), md_g5, Option.bind_some, h.1, hhe, nI_pred]
    simp only [pv_stl]
    by_cases ht : S.1 ≤ l + 1
    · rw [if_pos (nI_le (by omega) (by omega)), if_pos ht]
      exact ⟨Ar, rfl, h, fun _ _ => rfl, fun _ _ _ => rfl⟩
    · rw [if_neg (nI_ge (by omega) (by omega)), if_neg ht]
      obtain ⟨g1, g2, g3⟩ := h.2.2.2 l hl
      obtain ⟨z1, z2⟩ := g1.2.2.2 k hk
      rw [md_r6, Option.bind_some, Option.bind_some, md_ix, md_l3, sw_ix_nI (by omega) (by omega), Option.bind_some, Option.bind_some, md_g1, Option.bind_some, h1, z1]
      have hF5 := hw.2.1
      have hF3 := hw.1
      by_cases hz : (F + 1) / 2 ≤ S.2.2 l k
      · rw [if_pos (nI_le hz (by omega)), if_pos hz]
        exact ⟨Ar, rfl, h, fun _ _ => rfl, fun _ _ _ => rfl⟩
      · rw [if_neg (nI_ge (by omega) (by omega)), if_neg hz]
        obtain ⟨u1, u2, u3⟩ := h.2.2.2 (l + 1) (by omega)
        have h6 := hw.2.2.2.2.2.1 l (by omega)
        obtain ⟨p1, p2, p3⟩ := pv_hd_ex (S := S) (l := l + 1) (k := k) u2 (by rw [h6]; exact hk)
        have hp2 := hw.par2 (by omega) p1
        have hm := pv_sum_mono (S.2.2 (l + 1)) (pv_hd S (l + 1) k + 1) (S.2.1 (l + 1) - (pv_hd S (l + 1) k + 1))
        rw [show pv_hd S (l + 1) k + 1 + (S.2.1 (l + 1) - (pv_hd S (l + 1) k + 1)) = S.2.1 (l + 1) by omega, h6] at hm
        have hsx : pv_sum (S.2.2 (l + 1)) (pv_hd S (l + 1) k + 1) = pv_sum (S.2.2 (l + 1)) (pv_hd S (l + 1) k) + S.2.2 (l + 1) (pv_hd S (l + 1) k) := rfl
        rw [md_ob, Option.bind_some, nI_1, md_holder u1 u2 (by omega), Option.bind_some, Option.bind_some]
        change ∃ Ar', (sw_b2 (f_X8_settle m0 (nI l) (nI k) (nI (pv_hd S (l + 1) k)) (n, md_mk m0 I Ar Aj)) fun x20 σ21 => b_X8_remove_95 fu m0 (nI (pv_hd S (l + 1) k)) (nI (l + 1)) x20 σ21) = _ ∧ _
        obtain ⟨Ar1, r1, r2, r3⟩ := md_settle (n := n) (m0 := m0) (Aj := Aj) h (low := (F + 1) / 2) (l := l) (k := k) (up := pv_hd S (l + 1) k) h1 (by omega) (by omega) hk p1 p2 p3 (by omega) hp2 (fun j hj => by have := hw.2.2.2.2.2.2.2.1 l j hl hj; omega) (fun j hj hjk => by rcases hw.2.2.2.2.2.2.1 l j (by omega) hj with q | ⟨-, q, -⟩ <;> omega)
        rw [r1]
        have hs := hw.step (by omega) hk hz
        have e1 : (pv_st1 ((F + 1) / 2) S l k (pv_hd S (l + 1) k)).2.1 = S.1 := by
          unfold pv_st1; split
          · rfl
          · split <;> rfl
        have ec : (pv_st1 ((F + 1) / 2) S l k (pv_hd S (l + 1) k)).2.2.1 (l + 1) = S.2.1 (l + 1) := by
          unfold pv_st1; split
          · rfl
          · split
            · rfl
            · exact va_up_ne _ _ (by omega)
        by_cases hmm : (pv_st1 ((F + 1) / 2) S l k (pv_hd S (l + 1) k)).1 = true
        · rw [if_pos hmm] at hs ⊢
          rw [if_pos hmm]
          obtain ⟨Ar2, s1, s2, s3⟩ := ih (I := I) (Ar := Ar1) (fuel := fu) r2 h1 hs hc (by rw [e1]; omega) (by rw [ec]; exact p1) (by rw [e1]; omega) (by omega)
          exact ⟨Ar2, s1, s2, r3.tr s3⟩
        · rw [if_neg hmm]
          rw [if_neg hmm]
          obtain ⟨fv, rfl⟩ : ∃ fv, fu = fv + 1 := ⟨fu - 1, by omega⟩
          refine ⟨Ar1, ?_, r2, r3⟩
          show B_X8_remove_95 (b_X8_remove_95 fv) m0 (nI (pv_hd S (l + 1) k)) (nI (l + 1)) 0 (n, md_mk m0 I Ar1 Aj) = _
          unfold B_X8_remove_95
          rw [if_pos rfl]
theorem md_top_loop {F c : Nat} {I : Nat → Int32} {Ar : Nat → Nat → Int32} {S : pv_Sh} (h : md_sh I Ar S) (hw : pv_wfr F S c) : ∃ I', b_X8_remove_161 1000 m0 (n, md_mk m0 I Ar Aj) = b_X8_remove_200 m0 (n, md_mk m0 I' Ar Aj) ∧ md_sh I' Ar (pv_top 3 S) ∧ ∀ j, j ≠ 5 → I' j = I j := by
  have h7 := h.2.2.1
  have h00 := h.2.1
  obtain ⟨hh, hhe⟩ : ∃ hh, S.1 = hh + 1 := ⟨S.1 - 1, by omega⟩
  have e64 : ∀ q : Nat, (64 * nI q : Int32) = nI (64 * q + 0) := fun q => by show nI 64 * _ = _; rw [pk_mul]; rfl
  show ∃ I', B_X8_remove_161 (b_X8_remove_161 999) m0 _ = _ ∧ _
  unfold B_X8_remove_161
  rw [md_g5, Option.bind_some, h.1]
  obtain ⟨hwf, hcase⟩ := pv_top_wf hw 3 (by omega)
  by_cases h1 : S.1 ≤ 1
  · rw [if_pos (show nI S.1 ≤ 1 from nI_le (b := 1) h1 (by omega))]
    refine ⟨I, rfl, ?_, fun _ _ => rfl⟩
    rcases hcase with q | ⟨q, -, -⟩
    · rw [q]; exact h
    · omega
  · rw [if_neg (show ¬ nI S.1 ≤ 1 from nI_ge (a := 1) (by omega) (by omega)), md_r6, Option.bind_some, Option.bind_some, Option.bind_some, hhe, nI_pred, e64, md_l3, sw_ix_nI (by omega) (by omega), Option.bind_some, Option.bind_some]
    obtain ⟨g1, g2, g3⟩ := h.2.2.2 hh (by omega)
    obtain ⟨z1, z2⟩ := g1.2.2.2 0 g2
    rw [z1]
    by_cases hz : S.2.2 hh 0 = 1
    · rw [if_pos (by rw [hz]; rfl), Option.bind_some, nI_pred, md_p5, Option.bind_some]
      have htop : pv_top 3 S = (S.1 - 1, S.2.1, S.2.2) := by
        rcases hcase with q | ⟨-, -, q⟩
        · exfalso
          have := hwf.2.2.2.2.2.2.2.2
          rw [q] at this
          have := this (by omega)
          rw [show S.1 - 1 = hh by omega] at this
          omega
        · exact q
      have hsh : md_sh (upd I 5 (nI hh)) Ar (S.1 - 1, S.2.1, S.2.2) := by
        refine ⟨by simp only [upd, if_pos]; congr 1; omega, by show 0 < S.1 - 1; omega, by show S.1 - 1 ≤ 7; omega, fun l hl => h.2.2.2 l (by have : l < S.1 - 1 := hl; omega)⟩
      refine ⟨upd I 5 (nI hh), ?_, by rw [htop]; exact hsh, fun j hj => by simp [upd, hj]⟩
      show B_X8_remove_161 (b_X8_remove_161 998) m0 _ = _
      unfold B_X8_remove_161
      have e5 : upd I 5 (nI hh) 5 = nI hh := by simp [upd]
      rw [md_g5, Option.bind_some, e5]
      by_cases h2 : hh ≤ 1
      · rw [if_pos (show nI hh ≤ 1 from nI_le (b := 1) h2 (by omega))]
      · obtain ⟨h', hhe'⟩ : ∃ h', hh = h' + 1 := ⟨hh - 1, by omega⟩
        rw [if_neg (show ¬ nI hh ≤ 1 from nI_ge (a := 1) (by omega) (by omega)), md_r6, Option.bind_some, Option.bind_some, Option.bind_some, hhe', nI_pred, e64, md_l3, sw_ix_nI (by omega) (by omega), Option.bind_some, Option.bind_some]
        obtain ⟨g1', g2', g3'⟩ := h.2.2.2 h' (by omega)
        obtain ⟨z1', z2'⟩ := g1'.2.2.2 0 g2'
        have hne : ¬ S.2.2 h' 0 = 1 := by
          have := hwf.2.2.2.2.2.2.2.2
          rw [htop] at this
          have := this (by show 1 < S.1 - 1; omega)
          simp only at this
          rw [show S.1 - 1 - 1 = h' by omega] at this
          omega
        rw [z1', if_neg (fun q : nI (S.2.2 h' 0) = 1 => hne ((nI_eq (a := S.2.2 h' 0) (b := 1) (by omega) (by omega)).mp q))]
    · rw [if_neg (fun q : nI (S.2.2 hh 0) = 1 => hz ((nI_eq (a := S.2.2 hh 0) (b := 1) (by omega) (by omega)).mp q))]
      refine ⟨I, rfl, ?_, fun _ _ => rfl⟩
      rcases hcase with q | ⟨-, q, -⟩
      · rw [q]; exact h
      · rw [show S.1 - 1 = hh by omega] at q
        exact absurd q hz
theorem md_rem_loop {F c p k : Nat} {S : pv_Sh} (hwf : pv_wf F S (c + 1)) (hc : c < 60) (hp : p ≤ c) (hk : k < S.2.1 0) (hz : 0 < S.2.2 0 k) : ∀ (q i fuel : Nat) {I : Nat → Int32} {Ar : Nat → Nat → Int32}, i + q = c → p ≤ i → q < fuel → I 1 = nI ((F + 1) / 2) → I 2 = nI c → md_sh I Ar S →
    ∃ I' Ar', b_X8_remove_32 fuel m0 (nI k) (nI i) (n, md_mk m0 I Ar Aj) = some (1, (n, md_mk m0 I' Ar' Aj)) ∧ md_sh I' Ar' (pv_rem F S k) ∧ Ar' 1 = pv_delA (Ar 1) i (c + 1) ∧ Ar' 2 = pv_delA (Ar 2) i (c + 1) ∧ (∀ l, l < (pv_rem F S k).1 → ∀ k', k' < (pv_rem F S k).2.1 l → md_lab Ar' (pv_rem F S k) l k') ∧ (∀ j, j ≠ 5 → I' j = I j) ∧ ∀ t, 8 ≤ t → Ar' t = Ar t := by
  have hrem := hwf.rem hk hz
  rw [Nat.add_sub_cancel] at hrem
  have hdrop := hwf.drop hk hz
  rw [Nat.add_sub_cancel] at hdrop
  obtain ⟨n1, n2⟩ := (hwf.x 0 0).cnt (by omega)
  intro q
  induction q with
  | zero =>
    intro i fuel I Ar hi hpi hf h1 h2 hsh
    obtain ⟨f, rfl⟩ : ∃ f, fuel = f + 1 := ⟨fuel - 1, by omega⟩
    show ∃ I' Ar', B_X8_remove_32 (b_X8_remove_32 f) m0 (nI k) (nI i) _ = _ ∧ _
    unfold B_X8_remove_32
    obtain ⟨g1, g2, g3⟩ := hsh.2.2.2 0 hsh.2.1
    obtain ⟨z1, z2⟩ := g1.2.2.2 k hk
    rw [Nat.mul_zero, Nat.zero_add] at z1
    obtain ⟨z', hz'⟩ : ∃ z', S.2.2 0 k = z' + 1 := ⟨S.2.2 0 k - 1, by omega⟩
    rw [md_g2, Option.bind_some, h2, if_pos (nI_le (by omega) (by omega)), md_r6, Option.bind_some, Option.bind_some, md_l3, sw_ix_nI (by omega) (by omega), Option.bind_some, Option.bind_some, z1, hz', nI_pred, md_s3, sw_ix_nI (by omega) (by omega), Option.bind_some, Option.bind_some]
    have hsh1 := hsh.set (l := 0) (k := k) (x := z') hsh.2.1 hk (by omega)
    rw [Nat.mul_zero, Nat.zero_add] at hsh1
    have ez : z' = S.2.2 0 k - 1 := by omega
    rw [ez] at hsh1 ⊢
    obtain ⟨Ar1, r1, r2, r3⟩ := md_stl_loop (n := n) (m0 := m0) (Aj := Aj) (F := F) S.1 (fuel := 1000) hsh1 h1 hdrop (by omega) hsh.2.1 hk (by show S.1 - 0 ≤ S.1; omega) (by omega)
    rw [nI_0] at r1
    have hr := pv_stl_wf S.1 hdrop (by exact hwf.2.2.1) (by exact hk) (by show S.1 - 0 ≤ S.1; omega)
    obtain ⟨I1, s1, s2, s3⟩ := md_top_loop (n := n) (m0 := m0) (Aj := Aj) r2 hr
    rw [r1, s1]
    unfold b_X8_remove_200
    obtain ⟨Ar2, t1, t2, t3, t4⟩ := md_work (n := n) (m0 := m0) (Aj := Aj) ((hrem.x 0 0).ok (by omega)) s2 ((hrem.x 0 0).ne)
    rw [md_ob, Option.bind_some, t1, Option.bind_some]
    refine ⟨I1, Ar2, rfl, t3, ?_, ?_, t4, s3, ?_⟩
    · rw [t2 1 (by decide) (by decide) (by decide), r3.2 1 (by decide) (by decide)]
      funext x
      simp only [md_u, if_neg (show ¬ (1 : Nat) = 3 by decide), pv_delA]
      rw [if_neg (by omega)]
    · rw [t2 2 (by decide) (by decide) (by decide), r3.2 2 (by decide) (by decide)]
      funext x
      simp only [md_u, if_neg (show ¬ (2 : Nat) = 3 by decide), pv_delA]
      rw [if_neg (by omega)]
    · intro t ht
      rw [t2 t (by omega) (by omega) (by omega), r3.2 t (by omega) (by omega)]
      funext x
      simp [md_u, show t ≠ 3 by omega]
  | succ q ih =>
    intro i fuel I Ar hi hpi hf h1 h2 hsh
    obtain ⟨f, rfl⟩ : ∃ f, fuel = f + 1 := ⟨fuel - 1, by omega⟩
    show ∃ I' Ar', B_X8_remove_32 (b_X8_remove_32 f) m0 (nI k) (nI i) _ = _ ∧ _
    unfold B_X8_remove_32
    rw [md_g2, Option.bind_some, h2, if_neg (nI_ge (by omega) (by omega)), md_r3, Option.bind_some, Option.bind_some, Option.bind_some, nI_1, md_l1, sw_ix_nI (by omega) (by omega), Option.bind_some, Option.bind_some, Option.bind_some, md_s1, sw_ix_nI (by omega) (by omega), Option.bind_some, Option.bind_some, md_r4, Option.bind_some, Option.bind_some, Option.bind_some, md_l2, sw_ix_nI (by omega) (by omega), Option.bind_some, Option.bind_some, Option.bind_some, md_s2, sw_ix_nI (by omega) (by omega), Option.bind_some, Option.bind_some]
    have hsh0 : md_sh I (md_u (md_u Ar 1 i (Ar 1 (i + 1))) 2 i (md_u Ar 1 i (Ar 1 (i + 1)) 2 (i + 1))) S := by
      refine ⟨hsh.1, hsh.2.1, hsh.2.2.1, fun l hl => ?_⟩
      obtain ⟨p1, p2, p3⟩ := hsh.2.2.2 l hl
      exact ⟨⟨p1.1, p1.2.1, by simpa [md_u] using p1.2.2.1, by simpa [md_u] using p1.2.2.2⟩, p2, p3⟩
    obtain ⟨I', Ar', r1, r2, r3, r4, r5, r6, r7⟩ := ih (i + 1) f (I := I) (by omega) (by omega) (by omega) h1 h2 hsh0
    refine ⟨I', Ar', r1, r2, ?_, ?_, r5, r6, ?_⟩
    · rw [r3]
      funext x
      simp only [pv_delA, md_u, if_neg (show ¬ (1 : Nat) = 2 by decide), if_pos]
      by_cases hx : i + 1 ≤ x ∧ x + 1 < c + 1
      · rw [if_pos hx, if_neg (by omega), if_pos (by omega)]
      · rw [if_neg hx]
        by_cases hx2 : x = i
        · subst hx2; rw [if_pos rfl, if_pos (by omega)]
        · rw [if_neg hx2, if_neg (by omega)]
    · rw [r4]
      funext x
      simp only [pv_delA, md_u, if_neg (show ¬ (2 : Nat) = 1 by decide), if_pos]
      by_cases hx : i + 1 ≤ x ∧ x + 1 < c + 1
      · rw [if_pos hx, if_neg (by omega), if_pos (by omega)]
      · rw [if_neg hx]
        by_cases hx2 : x = i
        · subst hx2; rw [if_pos rfl, if_pos (by omega)]
        · rw [if_neg hx2, if_neg (by omega)]
    · intro t ht
      rw [r7 t ht]
      funext x
      simp [md_u, show t ≠ 2 by omega, show t ≠ 1 by omega]
variable {I : Nat → Int32} {Ar : Nat → Nat → Int32}
theorem md_rem_no {F : Nat} {S : pv_Sh} {c : Nat} (h : md_tr I Ar F S c) {key : Int32} (hf : pv_fd (Ar 1) c key = none) : f_X8_remove m0 key (n, md_mk m0 I Ar Aj) = some (0, (n, md_mk m0 I Ar Aj)) := by
  obtain ⟨t0, t1, t2, t3, t4, t5, t6, t7⟩ := h
  unfold f_X8_remove
  rw [md_ob, Option.bind_some, md_find t2 (by omega), Option.bind_some, hf, if_neg (by decide)]
theorem md_rem_yes {F : Nat} {S : pv_Sh} {c p : Nat} (h : md_tr I Ar F S c) {key : Int32} (hf : pv_fd (Ar 1) c key = some p) :
    ∃ I' Ar', f_X8_remove m0 key (n, md_mk m0 I Ar Aj) = some (1, (n, md_mk m0 I' Ar' Aj)) ∧ p < c ∧ md_tr I' Ar' F (pv_rem F S (pv_hd S 0 p)) (c - 1) ∧ Ar' 1 = pv_delA (Ar 1) p c ∧ Ar' 2 = pv_delA (Ar 2) p c ∧ md_kt I I' Ar Ar' := by
  obtain ⟨t0, t1, t2, t3, t4, t5, t6, t7⟩ := h
  obtain ⟨-, w2, w3, w4⟩ := pv_upF_le (Ar 1) key c 0
  have hp : p < c := by
    unfold pv_fd at hf
    split at hf
    · cases hf; omega
    · cases hf
  obtain ⟨g1, g2, g3⟩ := t3.2.2.2 0 t3.2.1
  have h5 := t4.2.2.2.2.1
  obtain ⟨q1, q2, q3⟩ := pv_hd_ex (S := S) (l := 0) (k := p) g2 (by rw [h5]; exact hp)
  obtain ⟨c', rfl⟩ : ∃ c', c = c' + 1 := ⟨c - 1, by omega⟩
  have hsh : md_sh (upd I 2 (nI c')) Ar S := ⟨by simpa [upd] using t3.1, t3.2.1, t3.2.2.1, t3.2.2.2⟩
  obtain ⟨I', Ar', r1, r2, r3, r4, r5, r6, r7⟩ := md_rem_loop (n := n) (m0 := m0) (Aj := Aj) (p := p) (k := pv_hd S 0 p) t4 (by omega) (by omega) q1 (by omega) (c' - p) p 1000 (I := upd I 2 (nI c')) (Ar := Ar) (by omega) (Nat.le_refl _) (by omega) (by simpa [upd] using t1) (by simp [upd]) hsh
  have hh := md_holder (n := n) (m0 := m0) (I := I) (Aj := Aj) g1 g2 (r := p) (by omega)
  rw [nI_0] at hh
  refine ⟨I', Ar', ?_, hp, ⟨by rw [r6 0 (by decide)]; simpa [upd] using t0, by rw [r6 1 (by decide)]; simpa [upd] using t1, by rw [r6 2 (by decide)]; simp [upd], r2, t4.rem q1 (by omega), by omega, ?_, r5⟩, r3, r4, ⟨fun j j2 j5 => by rw [r6 j j5]; simp [upd, j2], r7⟩⟩
  · unfold f_X8_remove
    rw [md_ob, Option.bind_some, md_find t2 (by omega), Option.bind_some, hf, if_pos (show 0 ≤ pv_oi (some p) from nI_pos' (by omega)), Option.bind_some, show pv_oi (some p) = nI p from rfl, hh, Option.bind_some, md_g2, Option.bind_some, t2, nI_pred, md_p2, Option.bind_some, ← r1]
    rfl
  · intro i j hij hj
    rw [r3, pv_delA_ed (by omega), pv_delA_ed (by omega)]
    unfold pv_ed
    by_cases a : i < p
    · rw [if_pos a]
      by_cases b : j < p
      · rw [if_pos b]; exact t6 i j hij (by omega)
      · rw [if_neg b]; exact t6 i (j + 1) (by omega) (by omega)
    · rw [if_neg a, if_neg (by omega)]
      exact t6 (i + 1) (j + 1) (by omega) (by omega)
end M6
