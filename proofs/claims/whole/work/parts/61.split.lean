/-! THE TREE'S SHAPE: levels h, nodes C l, sizes Z l k; splitting upwards -/
abbrev pv_Sh : Type := Nat × (Nat → Nat) × (Nat → Nat → Nat)
def pv_zi (z : Nat → Nat) (i x : Nat) : Nat → Nat := fun k => if k < i then z k else if k = i then x else z (k - 1)
def pv_zd (z : Nat → Nat) (i : Nat) : Nat → Nat := fun k => if k < i then z k else z (k + 1)
def pv_hd (S : pv_Sh) (l k : Nat) : Nat := pv_hoF (S.2.2 l) (S.2.1 l - 1) 0 k
/-- a node (l, k) of F + 1 is split -/
def pv_sp1 (F : Nat) (S : pv_Sh) (l k : Nat) : pv_Sh := (S.1, va_up S.2.1 l (S.2.1 l + 1), va_up S.2.2 l (pv_zi (va_up (S.2.2 l) k ((F + 2) / 2)) (k + 1) (F + 1 - (F + 2) / 2)))
/-- size of (l, k) becomes x -/
def pv_set (S : pv_Sh) (l k x : Nat) : pv_Sh := (S.1, S.2.1, va_up S.2.2 l (va_up (S.2.2 l) k x))
/-- a new root above with two children -/
def pv_grow (S : pv_Sh) : pv_Sh := (S.1 + 1, va_up S.2.1 S.1 1, va_up S.2.2 S.1 (va_up (S.2.2 S.1) 0 2))
def pv_spl (F : Nat) : Nat → pv_Sh → Nat → Nat → pv_Sh
  | 0, S, _, _ => S
  | f + 1, S, l, k => if S.2.2 l k ≤ F then S else if l + 1 = S.1 then pv_grow (pv_sp1 F S l k)
      else pv_spl F f (pv_set (pv_sp1 F S l k) (l + 1) (pv_hd S (l + 1) k) (S.2.2 (l + 1) (pv_hd S (l + 1) k) + 1)) (l + 1) (pv_hd S (l + 1) k)
/-- the reference holds a shape -/
def md_sh (I : Nat → Int32) (Ar : Nat → Nat → Int32) (S : pv_Sh) : Prop := I 5 = nI S.1 ∧ 0 < S.1 ∧ S.1 ≤ 7 ∧ ∀ l, l < S.1 → md_lv Ar l (S.2.1 l) (S.2.2 l) ∧ 0 < S.2.1 l ∧ S.2.1 l < 62
/-- nothing else has changed -/
def md_k34 (I I' : Nat → Int32) (Ar Ar' : Nat → Nat → Int32) : Prop := (∀ j, j ≠ 5 → I' j = I j) ∧ ∀ t, t ≠ 3 → t ≠ 4 → Ar' t = Ar t
theorem md_k34.tr {I I1 I2 : Nat → Int32} {Ar Ar1 Ar2 : Nat → Nat → Int32} (h : md_k34 I I1 Ar Ar1) (h2 : md_k34 I1 I2 Ar1 Ar2) : md_k34 I I2 Ar Ar2 := ⟨fun j hj => (h2.1 j hj).trans (h.1 j hj), fun t a b => (h2.2 t a b).trans (h.2 t a b)⟩
theorem pv_hoF_lt (z : Nat → Nat) : ∀ (q k r : Nat), k ≤ pv_hoF z q k r ∧ pv_hoF z q k r ≤ k + q := by
  intro q
  induction q with
  | zero => intro k r; exact ⟨Nat.le_refl _, Nat.le_refl _⟩
  | succ q ih =>
    intro k r
    simp only [pv_hoF]
    split
    · exact ⟨Nat.le_refl _, by omega⟩
    · have := ih (k + 1) (r - z k); omega
theorem pv_hd_lt {S : pv_Sh} {l k : Nat} (h : 0 < S.2.1 l) : pv_hd S l k < S.2.1 l := by
  have := pv_hoF_lt (S.2.2 l) (S.2.1 l - 1) 0 k
  unfold pv_hd; omega
section M2
variable {n m0 : Nat} {I : Nat → Int32} {Ar : Nat → Nat → Int32} {Aj : Nat → Nat → Int64}
theorem md_set_lv {l c : Nat} {z : Nat → Nat} (h : md_lv Ar l c z) {l' k x : Nat} (hl' : l' < 8) (hk : k < 64) (hx : x < 1000) : md_lv (md_u Ar 3 (64 * l' + k) (nI x)) l c (if l = l' then va_up z k x else z) := by
  obtain ⟨h1, h2, h3, h4⟩ := h
  refine ⟨h1, h2, by simpa [md_u] using h3, fun j hj => ?_⟩
  by_cases hll : l = l'
  · subst hll
    rw [if_pos rfl]
    by_cases hjk : j = k
    · subst hjk; simp [md_u, va_up, hx]
    · simp only [md_u, if_pos, va_up, if_neg hjk]
      rw [if_neg (by omega)]
      exact h4 j hj
  · rw [if_neg hll]
    simp only [md_u, if_pos]
    rw [if_neg (by omega)]
    exact h4 j hj
theorem md_ins_lv {l c : Nat} {z : Nat → Nat} (h : md_lv Ar l c z) {l' c' i x : Nat} {Ar' : Nat → Nat → Int32} (hl' : l' < 8) (hc' : c' < 63) (hi : i ≤ c') (hx : x < 1000) (hA3 : Ar' 3 = pv_insF (Ar 3) (64 * l') i c' (nI x)) (hA4 : Ar' 4 = upd (Ar 4) l' (nI (c' + 1))) (hcc : l = l' → c = c') : md_lv Ar' l (if l = l' then c + 1 else c) (if l = l' then pv_zi z i x else z) := by
  obtain ⟨h1, h2, h3, h4⟩ := h
  by_cases hll : l = l'
  · subst hll
    obtain rfl := hcc rfl
    simp only [if_pos]
    refine ⟨h1, by omega, by rw [hA4]; simp [upd], fun j hj => ?_⟩
    rw [hA3]
    unfold pv_insF pv_zi
    by_cases hj1 : j < i
    · rw [if_neg (by omega), if_neg (by omega), if_pos hj1]; exact h4 j (by omega)
    · by_cases hj2 : j = i
      · subst hj2; rw [if_pos rfl, if_neg (by omega), if_pos rfl]; exact ⟨rfl, hx⟩
      · rw [if_neg (by omega), if_pos (by omega), if_neg hj1, if_neg hj2, show 64 * l + j - 1 = 64 * l + (j - 1) by omega]
        exact h4 (j - 1) (by omega)
  · simp only [if_neg hll]
    refine ⟨h1, h2, by rw [hA4]; simpa [upd, hll] using h3, fun j hj => ?_⟩
    rw [hA3]
    unfold pv_insF
    rw [if_neg (by omega), if_neg (by omega)]
    exact h4 j hj
/-- one node is split in the reference's rows -/
theorem md_sp1 {S : pv_Sh} (h : md_sh I Ar S) {F l k : Nat} (hF0 : 3 ≤ F) (hF5 : F ≤ 5) (hl : l < S.1) (hk : k < S.2.1 l) : ∃ Ar', f_X8_insertNode m0 (nI l) (nI (k + 1)) (nI (F + 1 - (F + 2) / 2)) (n, md_mk m0 I (md_u Ar 3 (64 * l + k) (nI ((F + 2) / 2))) Aj) = some (n, md_mk m0 I Ar' Aj) ∧ (∀ t, t ≠ 3 → t ≠ 4 → Ar' t = Ar t) ∧ ∀ l', l' < S.1 → md_lv Ar' l' ((pv_sp1 F S l k).2.1 l') ((pv_sp1 F S l k).2.2 l') := by
  obtain ⟨h1, h2, h3, h4⟩ := h
  obtain ⟨g1, g2, g3⟩ := h4 l hl
  refine ⟨_, md_insertNode (c := S.2.1 l) (by omega) (by omega) (by omega) (by simpa [md_u] using g1.2.2.1), ?_, ?_⟩
  · intro t t3 t4; funext p; simp [md_u, t3, t4]
  · intro l' hl'
    obtain ⟨q1, q2, q3⟩ := h4 l' hl'
    have hs := md_set_lv q1 (l' := l) (k := k) (x := (F + 2) / 2) (by omega) (by omega) (by omega)
    have hi := md_ins_lv hs (l' := l) (c' := S.2.1 l) (i := k + 1) (x := F + 1 - (F + 2) / 2) (Ar' := md_u (fun t => if t = 3 then pv_insF (md_u Ar 3 (64 * l + k) (nI ((F + 2) / 2)) 3) (64 * l) (k + 1) (S.2.1 l) (nI (F + 1 - (F + 2) / 2)) else md_u Ar 3 (64 * l + k) (nI ((F + 2) / 2)) t) 4 l (nI (S.2.1 l + 1))) (by omega) (by omega) (by omega) (by omega) (by funext p; simp [md_u]) (by funext p; simp [md_u, upd]) (fun e => by rw [e])
    unfold pv_sp1
    by_cases hll : l' = l
    · subst hll
      simpa [va_up] using hi
    · simpa [va_up, hll] using hi
theorem md_split_loop {F : Nat} (hF0 : 3 ≤ F) (hF5 : F ≤ 5) : ∀ (f : Nat) {I : Nat → Int32} {Ar : Nat → Nat → Int32} {S : pv_Sh} {l k fuel : Nat}, md_sh I Ar S → I 0 = nI F → S.1 ≤ 6 → (∀ l', l ≤ l' → l' < S.1 → S.2.1 l' < 61) → l < S.1 → k < S.2.1 l → S.1 - l ≤ f → f + 1 < fuel → (∀ l', l < l' → l' < S.1 → ∀ j, j < S.2.1 l' → S.2.2 l' j ≤ F) → S.2.2 l k ≤ F + 1 →
    ∃ I' Ar', b_X8_splitUp_4 fuel m0 (nI l) (nI k) (n, md_mk m0 I Ar Aj) = some (n, md_mk m0 I' Ar' Aj) ∧ md_sh I' Ar' (pv_spl F f S l k) ∧ md_k34 I I' Ar Ar' := by
  intro f
  induction f with
  | zero => intro I Ar S l k fuel h h0 hh hC hl hk hf; omega
  | succ f ih =>
    intro I Ar S l k fuel h h0 hh hC hl hk hf hfu hup hz
    obtain ⟨fu, rfl⟩ : ∃ fu, fuel = fu + 1 := ⟨fuel - 1, by omega⟩
    obtain ⟨h1, h2, h3, h4⟩ := id h
    obtain ⟨g1, g2, g3⟩ := h4 l hl
    obtain ⟨z1, z2⟩ := g1.2.2.2 k hk
    show ∃ I' Ar', B_X8_splitUp_4 (b_X8_splitUp_4 fu) m0 (nI l) (nI k) _ = _ ∧ _
    unfold B_X8_splitUp_4
    rw [md_r6, Option.bind_some, Option.bind_some, md_ix, md_l3, sw_ix_nI (by omega) (by omega), Option.bind_some, Option.bind_some, md_g0, Option.bind_some, h0, z1]
    simp only [pv_spl]
    by_cases hle : S.2.2 l k ≤ F
    · rw [if_pos (nI_le hle (by omega)), if_pos hle]
      exact ⟨I, Ar, rfl, h, ⟨fun _ _ => rfl, fun _ _ _ => rfl⟩⟩
    · rw [if_neg (nI_ge (by omega) (by omega)), if_neg hle, Option.bind_some, md_g5, Option.bind_some, h1]
      have hst : (nI F + 2) / 2 = nI ((F + 2) / 2) := by
        show (nI F + nI 2) / nI 2 = _
        rw [nI_add, pk_div (by omega) (by omega) (by omega)]
      rw [hst]
      obtain ⟨Ar1, e1, k1, l1⟩ := md_sp1 (n := n) (m0 := m0) (Aj := Aj) h hF0 hF5 hl hk
      obtain ⟨h', hh'⟩ : ∃ h', S.1 = h' + 1 := ⟨S.1 - 1, by omega⟩
      rw [hh', nI_pred]
      have hin : (nI F + 1) - nI ((F + 2) / 2) = nI (F + 1 - (F + 2) / 2) := by rw [nI_1, pk_sub (by omega)]
      by_cases hroot : l + 1 = h' + 1
      · rw [if_pos (by rw [show l = h' by omega]), if_pos (by omega)]
        unfold b_X8_splitUp_47
        rw [if_neg (by decide)]
        unfold b_X8_splitUp_66
        rw [md_r6, Option.bind_some, Option.bind_some, md_ix, md_s3, sw_ix_nI (by omega) (by omega), Option.bind_some, Option.bind_some, md_g0, Option.bind_some, md_ob, Option.bind_some, h0, hin, nI_1, e1, Option.bind_some, if_neg (by decide), md_g5, Option.bind_some, h1, nI_1, md_p5, Option.bind_some, md_r7, Option.bind_some, Option.bind_some, nI_1, md_s4, sw_ix_nI (by omega) (by omega), Option.bind_some, Option.bind_some, md_r6, Option.bind_some, Option.bind_some]
        have e64 : (64 * nI (l + 1) : Int32) = nI (64 * (l + 1)) := by show nI 64 * _ = _; rw [pk_mul]
        rw [e64, md_s3, sw_ix_nI (by omega) (by omega), Option.bind_some, Option.bind_some]
        unfold b_X8_splitUp_155
        rw [nI_1]
        obtain ⟨fv, rfl⟩ : ∃ fv, fu = fv + 1 := ⟨fu - 1, by omega⟩
        show ∃ I' Ar', B_X8_splitUp_4 (b_X8_splitUp_4 fv) m0 (nI (l + 1)) 0 _ = _ ∧ _
        unfold B_X8_splitUp_4
        have e640 : (64 * nI (l + 1) + 0 : Int32) = nI (64 * (l + 1)) := by rw [← nI_0, md_ix]; rfl
        rw [md_r6, Option.bind_some, Option.bind_some, e640, md_l3, sw_ix_nI (by omega) (by omega), Option.bind_some, Option.bind_some, md_g0, Option.bind_some]
        have e2 : md_u (md_u Ar1 4 (l + 1) 1) 3 (64 * (l + 1)) 2 3 (64 * (l + 1)) = nI 2 := by simp [md_u]; rfl
        have e3 : upd I 5 (nI (S.1 + 1)) 0 = nI F := by simp [upd, h0]
        rw [e2, e3, if_pos (nI_le (by omega) (by omega))]
        refine ⟨_, _, rfl, ⟨?_, ?_, ?_, ?_⟩, ⟨fun j hj => by simp [upd, hj], fun t t3 t4 => by rw [← k1 t t3 t4]; funext p; simp [md_u, t3, t4]⟩⟩
        · simp [upd, pv_grow, pv_sp1]
        · simp [pv_grow]
        · simp [pv_grow, pv_sp1]; omega
        · intro l' hl'
          simp only [pv_grow, pv_sp1] at hl' ⊢
          by_cases hlast : l' = S.1
          · subst hlast
            simp only [va_up_self]
            refine ⟨⟨by omega, by decide, by simp [md_u, show l + 1 = S.1 by omega]; rfl, fun j hj => ?_⟩, by decide, by decide⟩
            obtain rfl : j = 0 := by omega
            simp [md_u, va_up, show l + 1 = S.1 by omega]
            rfl
          · rw [va_up_ne _ _ hlast, va_up_ne _ _ hlast]
            have hq := l1 l' (by omega)
            obtain ⟨q1, q2, q3, q4⟩ := hq
            obtain ⟨p1, p2, p3⟩ := h4 l' (by omega)
            have hC' := hC l (Nat.le_refl _) hl
            simp only [pv_sp1] at q2 q3 q4
            refine ⟨⟨q1, q2, ?_, fun j hj => ?_⟩, ?_, ?_⟩
            · simp only [md_u]
              rw [if_neg (by decide), if_pos trivial, if_neg (by omega)]
              exact q3
            · have := q4 j hj
              simp only [md_u]
              rw [if_pos trivial, if_neg (by omega), if_neg (by decide)]
              exact this
            · by_cases hll : l' = l
              · subst hll; simp [va_up]
              · simpa [va_up, hll] using p2
            · by_cases hll : l' = l
              · subst hll; simp only [va_up_self]; omega
              · simp only [va_up_ne _ _ hll]; omega
      · rw [if_neg (fun q => by have := (nI_eq (by omega) (by omega)).mp q; omega), if_neg (by omega)]
        unfold b_X8_splitUp_47
        obtain ⟨u1, u2, u3⟩ := h4 (l + 1) (by omega)
        have hhd := pv_hd_lt (k := k) u2
        rw [if_pos rfl, md_ob, Option.bind_some, nI_1, md_holder u1 u2 (by omega), Option.bind_some]
        change ∃ I' Ar', b_X8_splitUp_66 (b_X8_splitUp_4 fu) m0 (nI l) (nI k) (nI ((F + 2) / 2)) 0 (nI (pv_hd S (l + 1) k)) _ = _ ∧ _
        generalize hup0 : pv_hd S (l + 1) k = up at hhd ⊢
        unfold b_X8_splitUp_66
        rw [md_r6, Option.bind_some, Option.bind_some, md_ix, md_s3, sw_ix_nI (by omega) (by omega), Option.bind_some, Option.bind_some, md_g0, Option.bind_some, md_ob, Option.bind_some, h0, hin, nI_1, e1, Option.bind_some, if_pos rfl, md_r6, Option.bind_some, Option.bind_some, nI_1, md_ix, md_l3, sw_ix_nI (by omega) (by omega), Option.bind_some, Option.bind_some, md_s3, sw_ix_nI (by omega) (by omega), Option.bind_some, Option.bind_some]
        unfold b_X8_splitUp_155
        rw [nI_1]
        have hl1 := l1 (l + 1) (by omega)
        have hA3 : Ar1 3 (64 * (l + 1) + up) = nI (S.2.2 (l + 1) up) := by
          have := hl1.2.2.2 up (by simp [pv_sp1, va_up]; omega)
          simpa [pv_sp1, va_up] using this.1
        have hzu := hup (l + 1) (by omega) (by omega) up hhd
        rw [hA3, nI_1]
        have hsh : md_sh I (md_u Ar1 3 (64 * (l + 1) + up) (nI (S.2.2 (l + 1) up + 1))) (pv_set (pv_sp1 F S l k) (l + 1) up (S.2.2 (l + 1) up + 1)) := by
          refine ⟨by simpa [pv_set, pv_sp1] using h1, by simpa [pv_set, pv_sp1] using h2, by simpa [pv_set, pv_sp1] using h3, fun l' hl' => ?_⟩
          simp only [pv_set, pv_sp1] at hl' ⊢
          have hq := l1 l' hl'
          obtain ⟨p1, p2, p3⟩ := h4 l' hl'
          have hC' := hC l (Nat.le_refl _) hl
          have hs := md_set_lv hq (l' := l + 1) (k := up) (x := S.2.2 (l + 1) up + 1) (by omega) (by omega) (by omega)
          simp only [pv_sp1] at hs
          refine ⟨?_, ?_, ?_⟩
          · by_cases hll : l' = l + 1
            · subst hll
              simpa [va_up] using hs
            · simpa [va_up, hll] using hs
          · by_cases hll : l' = l
            · subst hll; simp [va_up]
            · simpa [va_up, hll] using p2
          · by_cases hll : l' = l
            · subst hll; simp only [va_up_self]; omega
            · simp only [va_up_ne _ _ hll]; omega
        obtain ⟨I', Ar', r1, r2, r3⟩ := ih (I := I) (S := pv_set (pv_sp1 F S l k) (l + 1) up (S.2.2 (l + 1) up + 1)) (l := l + 1) (k := up) (fuel := fu) hsh h0 (by simpa [pv_set, pv_sp1] using hh) (fun l' q1 q2 => by
          simp only [pv_set, pv_sp1] at q2 ⊢
          rw [va_up_ne _ _ (by omega)]
          exact hC l' (by omega) q2) (by simp [pv_set, pv_sp1]; omega) (by simp [pv_set, pv_sp1, va_up]; omega) (by simp [pv_set, pv_sp1]; omega) (by omega) (fun l' q1 q2 j hj => by
          simp only [pv_set, pv_sp1] at q2 hj ⊢
          rw [va_up_ne _ _ (by omega), va_up_ne _ _ (by omega)]
          rw [va_up_ne _ _ (by omega)] at hj
          exact hup l' (by omega) q2 j hj) (by simp only [pv_set, pv_sp1, va_up_self]; omega)
        refine ⟨I', Ar', r1, r2, md_k34.tr ⟨fun _ _ => rfl, fun t t3 t4 => ?_⟩ r3⟩
        rw [← k1 t t3 t4]; funext p; simp [md_u, t3]
end M2
