/-! THE REFERENCE'S put -/
def pv_ei (f : Nat → Int32) (i : Nat) (x : Int32) : Nat → Int32 := fun k => if k < i then f k else if k = i then x else f (k - 1)
def pv_insA (f : Nat → Int32) (i c : Nat) (x : Int32) : Nat → Int32 := fun p => if p = i then x else if i < p ∧ p ≤ c then f (p - 1) else f p
theorem pv_insA_ei {f : Nat → Int32} {i c : Nat} {x : Int32} {p : Nat} (hi : i ≤ c) (hp : p ≤ c) : pv_insA f i c x p = pv_ei f i x p := by
  unfold pv_insA pv_ei
  by_cases h1 : p < i
  · rw [if_neg (by omega), if_neg (by omega), if_pos h1]
  · by_cases h2 : p = i
    · rw [if_pos h2, if_neg h1, if_pos h2]
    · rw [if_neg h2, if_pos (by omega), if_neg h1, if_neg h2]
/-- the reference's tree: fan, low, count, shape, labels; keys rise -/
def md_tr (I : Nat → Int32) (Ar : Nat → Nat → Int32) (F : Nat) (S : pv_Sh) (c : Nat) : Prop := I 0 = nI F ∧ I 1 = nI ((F + 1) / 2) ∧ I 2 = nI c ∧ md_sh I Ar S ∧ pv_wf F S c ∧ c ≤ 60 ∧ (∀ i j, i < j → j < c → Ar 1 i < Ar 1 j) ∧ ∀ l, l < S.1 → ∀ k, k < S.2.1 l → md_lab Ar S l k
def pv_put (F : Nat) (S : pv_Sh) (k : Nat) : pv_Sh := pv_spl F S.1 (pv_set S 0 k (S.2.2 0 k + 1)) 0 k
/-- rows and ints beside the tree's are kept -/
def md_kt (I I' : Nat → Int32) (Ar Ar' : Nat → Nat → Int32) : Prop := (∀ j, j ≠ 2 → j ≠ 5 → I' j = I j) ∧ ∀ t, 8 ≤ t → Ar' t = Ar t
section M5
variable {n m0 : Nat} {Aj : Nat → Nat → Int64}
theorem pv_wfx.lv0 {F : Nat} {S : pv_Sh} {c k : Nat} (h : pv_wf F S c) (hk : k < S.2.1 0) : pv_wfx F (pv_set S 0 k (S.2.2 0 k + 1)) (c + 1) 0 k := by
  obtain ⟨h1, h2, h3, h4, h5, h6, h7, h8, h9⟩ := h
  have hs := pv_sum_up (z := S.2.2 0) (k := k) (x := S.2.2 0 k + 1) (c := S.2.1 0) hk
  refine ⟨h1, h2, h3, h4, ?_, fun l hl => ?_, fun l k' hl hk' => ?_, fun l k' hl hk' => ?_, fun hh => ?_⟩
  · simp only [pv_set, va_up_self]; omega
  · simp only [pv_set, va_up_ne _ _ (show l + 1 ≠ 0 by omega)]; exact h6 l hl
  · simp only [pv_set] at hl hk' ⊢
    have := h7 l k' hl hk'
    by_cases a : l = 0
    · subst a; rw [va_up_self]
      by_cases b : k' = k
      · subst b; rw [va_up_self]; omega
      · rw [va_up_ne _ _ b]; exact this
    · rw [va_up_ne _ _ a]; exact this
  · simp only [pv_set] at hl hk' ⊢
    have := h8 l k' hl hk'
    by_cases a : l = 0
    · subst a; rw [va_up_self]
      by_cases b : k' = k
      · subst b; rw [va_up_self]; right; exact ⟨rfl, rfl, by omega⟩
      · rw [va_up_ne _ _ b]; left; exact this
    · rw [va_up_ne _ _ a]; left; exact this
  · simp only [pv_set] at hh ⊢
    rw [va_up_ne _ _ (by omega)]; exact h9 hh
theorem md_put_loop {F c u k : Nat} {key v : Int32} {S : pv_Sh} (hwf : pv_wf F S c) (hc : c < 60) (hu : u ≤ c) (hk : k < S.2.1 0) : ∀ (q i fuel : Nat) {I : Nat → Int32} {Ar : Nat → Nat → Int32}, u + q = i → i ≤ c → q < fuel → I 0 = nI F → I 2 = nI c → md_sh I Ar S →
    ∃ I' Ar', b_X8_put_83 fuel m0 key v (nI u) (nI k) (nI i) (n, md_mk m0 I Ar Aj) = some (1, (n, md_mk m0 I' Ar' Aj)) ∧ I' 2 = nI (c + 1) ∧ md_sh I' Ar' (pv_put F S k) ∧ Ar' 1 = pv_insA (Ar 1) u i key ∧ Ar' 2 = pv_insA (Ar 2) u i v ∧ (∀ l, l < (pv_put F S k).1 → ∀ k', k' < (pv_put F S k).2.1 l → md_lab Ar' (pv_put F S k) l k') ∧ md_kt I I' Ar Ar' := by
  have hx := pv_wfx.lv0 hwf hk
  have hput : pv_wf F (pv_put F S k) (c + 1) := pv_spl_wf S.1 hx (by exact hwf.2.2.1) (by exact hk) (by show S.1 - 0 ≤ S.1; omega)
  obtain ⟨n1, n2⟩ := (hwf.x 0 0).cnt (by omega)
  intro q
  induction q with
  | zero =>
    intro i fuel I Ar hi hic hf h0 h2 hsh
    obtain ⟨f, rfl⟩ : ∃ f, fuel = f + 1 := ⟨fuel - 1, by omega⟩
    show ∃ I' Ar', B_X8_put_83 (b_X8_put_83 f) m0 key v (nI u) (nI k) (nI i) _ = _ ∧ _
    unfold B_X8_put_83
    obtain rfl : i = u := by omega
    obtain ⟨g1, g2, g3⟩ := hsh.2.2.2 0 hsh.2.1
    obtain ⟨z1, z2⟩ := g1.2.2.2 k hk
    rw [Nat.mul_zero, Nat.zero_add] at z1
    have hzF := hwf.2.2.2.2.2.2.2.1 0 k hsh.2.1 hk
    have hF5 := hwf.2.1
    rw [if_pos (nI_le (by omega) (by omega)), md_r3, Option.bind_some, Option.bind_some, md_s1, sw_ix_nI (by omega) (by omega), Option.bind_some, Option.bind_some, md_r4, Option.bind_some, Option.bind_some, md_s2, sw_ix_nI (by omega) (by omega), Option.bind_some, Option.bind_some, md_g2, Option.bind_some, h2, nI_1, md_p2, Option.bind_some, md_r6, Option.bind_some, Option.bind_some, md_l3, sw_ix_nI (by omega) (by omega), Option.bind_some, Option.bind_some]
    have e3 : md_u (md_u Ar 1 i key) 2 i v 3 k = nI (S.2.2 0 k) := by simpa [md_u] using z1
    rw [e3, nI_1, md_s3, sw_ix_nI (by omega) (by omega), Option.bind_some, Option.bind_some, md_ob, Option.bind_some]
    have hsh0 : md_sh (upd I 2 (nI (c + 1))) (md_u (md_u Ar 1 i key) 2 i v) S := by
      refine ⟨by simpa [upd] using hsh.1, hsh.2.1, hsh.2.2.1, fun l hl => ?_⟩
      obtain ⟨p1, p2, p3⟩ := hsh.2.2.2 l hl
      exact ⟨⟨p1.1, p1.2.1, by simpa [md_u] using p1.2.2.1, by simpa [md_u] using p1.2.2.2⟩, p2, p3⟩
    have hsh1 := hsh0.set (l := 0) (k := k) (x := S.2.2 0 k + 1) hsh.2.1 hk (by omega)
    rw [Nat.mul_zero, Nat.zero_add] at hsh1
    obtain ⟨I1, Ar1, r1, r2, r3⟩ := md_split_loop (n := n) (m0 := m0) (Aj := Aj) hwf.1 hwf.2.1 S.1 (S := pv_set S 0 k (S.2.2 0 k + 1)) (l := 0) (k := k) (fuel := 1000) hsh1 (by simpa [upd] using h0) (by show S.1 ≤ 6; omega) (fun l' _ hl' => by have := n2 l' hl'; show S.2.1 l' < 61; omega) hsh.2.1 hk (by show S.1 - 0 ≤ S.1; omega) (by omega) (fun l' q1 q2 j hj => by
      simp only [pv_set, va_up_ne _ _ (show l' ≠ 0 by omega)]
      exact hwf.2.2.2.2.2.2.2.1 l' j q2 hj) (by simp only [pv_set, va_up_self]; omega)
    unfold f_X8_splitUp
    rw [nI_0] at r1
    rw [r1, Option.bind_some, md_ob, Option.bind_some]
    obtain ⟨Ar2, s1, s2, s3, s4⟩ := md_work (n := n) (m0 := m0) (Aj := Aj) ((hput.x 0 0).ok (by omega)) r2 ((hput.x 0 0).ne)
    rw [s1, Option.bind_some]
    refine ⟨I1, Ar2, rfl, ?_, s3, ?_, ?_, s4, ?_, ?_⟩
    · rw [r3.1 2 (by decide)]; simp [upd]
    · rw [s2 1 (by decide) (by decide) (by decide), r3.2 1 (by decide) (by decide)]
      funext p
      simp only [md_u, if_neg (show ¬ (1 : Nat) = 3 by decide), if_neg (show ¬ (1 : Nat) = 2 by decide), if_pos, pv_insA]
      by_cases hp : p = i
      · rw [if_pos hp, if_pos hp]
      · rw [if_neg hp, if_neg hp, if_neg (by omega)]
    · rw [s2 2 (by decide) (by decide) (by decide), r3.2 2 (by decide) (by decide)]
      funext p
      simp only [md_u, if_neg (show ¬ (2 : Nat) = 3 by decide), if_neg (show ¬ (2 : Nat) = 1 by decide), if_pos, pv_insA]
      by_cases hp : p = i
      · rw [if_pos hp, if_pos hp]
      · rw [if_neg hp, if_neg hp, if_neg (by omega)]
    · intro j j2 j5; rw [r3.1 j j5]; simp [upd, j2]
    · intro t ht
      rw [s2 t (by omega) (by omega) (by omega), r3.2 t (by omega) (by omega)]
      funext p
      simp [md_u, show t ≠ 3 by omega, show t ≠ 2 by omega, show t ≠ 1 by omega]
  | succ q ih =>
    intro i fuel I Ar hi hic hf h0 h2 hsh
    obtain ⟨f, rfl⟩ : ∃ f, fuel = f + 1 := ⟨fuel - 1, by omega⟩
    show ∃ I' Ar', B_X8_put_83 (b_X8_put_83 f) m0 key v (nI u) (nI k) (nI i) _ = _ ∧ _
    unfold B_X8_put_83
    obtain ⟨i', rfl⟩ : ∃ i', i = i' + 1 := ⟨i - 1, by omega⟩
    rw [if_neg (nI_ge (by omega) (by omega)), md_r3, Option.bind_some, Option.bind_some, Option.bind_some, nI_pred, md_l1, sw_ix_nI (by omega) (by omega), Option.bind_some, Option.bind_some, Option.bind_some, md_s1, sw_ix_nI (by omega) (by omega), Option.bind_some, Option.bind_some, md_r4, Option.bind_some, Option.bind_some, Option.bind_some, md_l2, sw_ix_nI (by omega) (by omega), Option.bind_some, Option.bind_some, Option.bind_some, md_s2, sw_ix_nI (by omega) (by omega), Option.bind_some, Option.bind_some, pk_m1]
    have hsh0 : md_sh I (md_u (md_u Ar 1 (i' + 1) (Ar 1 i')) 2 (i' + 1) (md_u Ar 1 (i' + 1) (Ar 1 i') 2 i')) S := by
      refine ⟨hsh.1, hsh.2.1, hsh.2.2.1, fun l hl => ?_⟩
      obtain ⟨p1, p2, p3⟩ := hsh.2.2.2 l hl
      exact ⟨⟨p1.1, p1.2.1, by simpa [md_u] using p1.2.2.1, by simpa [md_u] using p1.2.2.2⟩, p2, p3⟩
    obtain ⟨I', Ar', r1, r2, r3, r4, r5, r6, r7⟩ := ih i' f (I := I) (by omega) (by omega) (by omega) h0 h2 hsh0
    refine ⟨I', Ar', r1, r2, r3, ?_, ?_, r6, r7.1, ?_⟩
    · rw [r4]
      funext p
      simp only [pv_insA, md_u, if_neg (show ¬ (1 : Nat) = 2 by decide), if_pos]
      by_cases hp : p = u
      · rw [if_pos hp, if_pos hp]
      · rw [if_neg hp, if_neg hp]
        by_cases hp2 : u < p ∧ p ≤ i'
        · rw [if_pos hp2, if_neg (by omega), if_pos (by omega)]
        · rw [if_neg hp2]
          by_cases hp3 : p = i' + 1
          · subst hp3; rw [if_pos rfl, if_pos (by omega)]; rfl
          · rw [if_neg hp3, if_neg (by omega)]
    · rw [r5]
      funext p
      simp only [pv_insA, md_u, if_neg (show ¬ (2 : Nat) = 1 by decide), if_pos]
      by_cases hp : p = u
      · rw [if_pos hp, if_pos hp]
      · rw [if_neg hp, if_neg hp]
        by_cases hp2 : u < p ∧ p ≤ i'
        · rw [if_pos hp2, if_neg (by omega), if_pos (by omega)]
        · rw [if_neg hp2]
          by_cases hp3 : p = i' + 1
          · subst hp3; rw [if_pos rfl, if_pos (by omega)]; rfl
          · rw [if_neg hp3, if_neg (by omega)]
    · intro t ht
      rw [r7.2 t ht]
      funext p
      simp [md_u, show t ≠ 2 by omega, show t ≠ 1 by omega]
variable {I : Nat → Int32} {Ar : Nat → Nat → Int32}
theorem pv_oi_neg : pv_oi none < 0 := by decide
theorem pv_oi_some {k : Nat} (h : k < 1000) : ¬ pv_oi (some k) < 0 := nI_pos (by omega)
theorem md_put_no {key v : Int32} (hr : key < -9999 ∨ ¬ key ≤ 9999) : f_X8_put m0 key v (n, md_mk m0 I Ar Aj) = some (0, (n, md_mk m0 I Ar Aj)) := by
  unfold f_X8_put
  by_cases h1 : key < -9999
  · rw [if_pos h1]; rfl
  · rw [if_neg h1, if_neg (hr.resolve_left h1)]; rfl
theorem md_put_full {F : Nat} {S : pv_Sh} (h : md_tr I Ar F S 60) {key v : Int32} (h1 : ¬ key < -9999) (h2 : key ≤ 9999) (hf : pv_fd (Ar 1) 60 key = none) : f_X8_put m0 key v (n, md_mk m0 I Ar Aj) = some (0, (n, md_mk m0 I Ar Aj)) := by
  unfold f_X8_put
  obtain ⟨t0, t1, t2, t3, t4, t5, t6, t7⟩ := h
  rw [if_neg h1, if_pos h2, md_ob, Option.bind_some, md_find t2 (by omega), Option.bind_some, hf, if_pos pv_oi_neg, md_g2, Option.bind_some, t2, if_pos (show nI 60 = 60 from rfl)]
theorem md_put_new {F : Nat} {S : pv_Sh} {c : Nat} (h : md_tr I Ar F S c) {key v : Int32} (h1 : ¬ key < -9999) (h2 : key ≤ 9999) (hf : pv_fd (Ar 1) c key = none) (hc : c < 60) :
    ∃ I' Ar', f_X8_put m0 key v (n, md_mk m0 I Ar Aj) = some (1, (n, md_mk m0 I' Ar' Aj)) ∧ md_tr I' Ar' F (pv_put F S (pv_hd S 0 (pv_upF (Ar 1) key c 0 - 1))) (c + 1) ∧ Ar' 1 = pv_insA (Ar 1) (pv_upF (Ar 1) key c 0) c key ∧ Ar' 2 = pv_insA (Ar 2) (pv_upF (Ar 1) key c 0) c v ∧ md_kt I I' Ar Ar' := by
  obtain ⟨t0, t1, t2, t3, t4, t5, t6, t7⟩ := h
  obtain ⟨g1, g2, g3⟩ := t3.2.2.2 0 t3.2.1
  obtain ⟨-, w2, w3, w4⟩ := pv_upF_le (Ar 1) key c 0
  have hfd := hf
  unfold pv_fd at hfd
  generalize hu : pv_upF (Ar 1) key c 0 = u at w2 w3 w4 hfd
  have hk := pv_hd_lt (S := S) (l := 0) (k := u - 1) g2
  obtain ⟨I', Ar', r1, r2, r3, r4, r5, r6, r7⟩ := md_put_loop (n := n) (m0 := m0) (Aj := Aj) (key := key) (v := v) (u := u) (k := pv_hd S 0 (u - 1)) t4 hc (by omega) hk (c - u) c 1000 (by omega) (Nat.le_refl _) (by omega) t0 t2 t3
  have hput : pv_wf F (pv_put F S (pv_hd S 0 (u - 1))) (c + 1) := pv_spl_wf S.1 (pv_wfx.lv0 t4 hk) (by exact t4.2.2.1) (by exact hk) (by show S.1 - 0 ≤ S.1; omega)
  refine ⟨I', Ar', ?_, ⟨by rw [r7.1 0 (by decide) (by decide)]; exact t0, by rw [r7.1 1 (by decide) (by decide)]; exact t1, r2, r3, hput, by omega, ?_, r6⟩, r4, r5, r7⟩
  · unfold f_X8_put
    rw [if_neg h1, if_pos h2, md_ob, Option.bind_some, md_find t2 (by omega), Option.bind_some, hf, if_pos pv_oi_neg, md_g2, Option.bind_some, t2, if_neg (fun q => by have := (nI_eq (a := c) (b := 60) (by omega) (by omega)).mp q; omega), Option.bind_some, md_upTo t2 (by omega), Option.bind_some, hu]
    by_cases hu0 : u = 0
    · subst hu0
      rw [if_pos nI_0]
      unfold b_X8_put_72
      have hh := md_holder (n := n) (m0 := m0) (I := I) (Aj := Aj) g1 g2 (r := 0) (by omega)
      rw [nI_0] at hh
      rw [md_ob, Option.bind_some, hh, Option.bind_some, md_g2, Option.bind_some, t2, ← r1]
      rfl
    · rw [if_neg (nI_ne0 (by omega) (by omega))]
      unfold b_X8_put_72
      have hh := md_holder (n := n) (m0 := m0) (I := I) (Aj := Aj) g1 g2 (r := u - 1) (by omega)
      rw [nI_0] at hh
      have hpr : nI u - 1 = nI (u - 1) := by
        obtain ⟨u', rfl⟩ : ∃ u', u = u' + 1 := ⟨u - 1, by omega⟩
        rw [nI_pred]; rfl
      rw [md_ob, Option.bind_some, hpr, hh, Option.bind_some, md_g2, Option.bind_some, t2, ← r1]
      rfl
  · rw [r4]
    have lo : ∀ i, i < u → Ar 1 i < key := by
      intro i hi
      have h3 := w3 i (by omega) hi
      rcases Int32.lt_or_eq_of_le (Int32.not_lt.mp h3) with q | q
      · exact q
      · exfalso
        have hiu : i = u - 1 := by
          rcases Nat.lt_or_ge i (u - 1) with a | a
          · have a1 := t6 i (u - 1) a (by omega)
            have a2 := w3 (u - 1) (by omega) (by omega)
            rw [q] at a1
            exact absurd a1 a2
          · omega
        subst hiu
        rw [if_pos ⟨by omega, q⟩] at hfd
        cases hfd
    have hi' : ∀ i, u ≤ i → i < c → key < Ar 1 i := by
      intro i hi hic
      have h4 := w4 (by omega)
      by_cases e : i = u
      · subst e; exact h4
      · exact Int32.lt_trans h4 (t6 u i (by omega) hic)
    intro i j hij hj
    rw [pv_insA_ei (by omega) (by omega), pv_insA_ei (by omega) (by omega)]
    unfold pv_ei
    by_cases a : i < u
    · rw [if_pos a]
      by_cases b : j < u
      · rw [if_pos b]; exact t6 i j hij (by omega)
      · rw [if_neg b]
        by_cases d : j = u
        · rw [if_pos d]; exact lo i a
        · rw [if_neg d]; exact t6 i (j - 1) (by omega) (by omega)
    · rw [if_neg a]
      by_cases b : i = u
      · rw [if_pos b, if_neg (by omega), if_neg (by omega)]
        exact hi' (j - 1) (by omega) (by omega)
      · rw [if_neg b, if_neg (by omega), if_neg (by omega)]
        exact t6 (i - 1) (j - 1) (by omega) (by omega)
theorem md_put_old {F : Nat} {S : pv_Sh} {c p : Nat} (h : md_tr I Ar F S c) {key v : Int32} (h1 : ¬ key < -9999) (h2 : key ≤ 9999) (hf : pv_fd (Ar 1) c key = some p) :
    ∃ Ar', f_X8_put m0 key v (n, md_mk m0 I Ar Aj) = some (2, (n, md_mk m0 I Ar' Aj)) ∧ md_tr I Ar' F S c ∧ Ar' 1 = Ar 1 ∧ Ar' 2 = upd (Ar 2) p v ∧ p < c ∧ md_kt I I Ar Ar' := by
  obtain ⟨t0, t1, t2, t3, t4, t5, t6, t7⟩ := h
  obtain ⟨-, w2, w3, w4⟩ := pv_upF_le (Ar 1) key c 0
  have hp : p < c := by
    unfold pv_fd at hf
    split at hf
    · cases hf; omega
    · cases hf
  unfold f_X8_put
  rw [if_neg h1, if_pos h2, md_ob, Option.bind_some, md_find t2 (by omega), Option.bind_some, hf, if_neg (pv_oi_some (by omega)), md_r4, Option.bind_some, Option.bind_some]
  simp only [pv_oi]
  rw [md_s2, sw_ix_nI (by omega) (by omega), Option.bind_some, Option.bind_some, md_ob, Option.bind_some]
  have hsh0 : md_sh I (md_u Ar 2 p v) S := by
    refine ⟨t3.1, t3.2.1, t3.2.2.1, fun l hl => ?_⟩
    obtain ⟨p1, p2, p3⟩ := t3.2.2.2 l hl
    exact ⟨⟨p1.1, p1.2.1, by simpa [md_u] using p1.2.2.1, by simpa [md_u] using p1.2.2.2⟩, p2, p3⟩
  obtain ⟨Ar2, s1, s2, s3, s4⟩ := md_work (n := n) (m0 := m0) (Aj := Aj) ((t4.x 0 0).ok (by omega)) hsh0 ((t4.x 0 0).ne)
  rw [s1, Option.bind_some]
  have e1 : Ar2 1 = Ar 1 := by rw [s2 1 (by decide) (by decide) (by decide)]; funext q; simp [md_u]
  have e2 : Ar2 2 = upd (Ar 2) p v := by rw [s2 2 (by decide) (by decide) (by decide)]; funext q; simp [md_u, upd]
  refine ⟨Ar2, rfl, ⟨t0, t1, t2, s3, t4, t5, by rw [e1]; exact t6, s4⟩, e1, e2, hp, fun _ _ _ => rfl, fun t ht => ?_⟩
  rw [s2 t (by omega) (by omega) (by omega)]; funext q; simp [md_u, show t ≠ 2 by omega]
end M5
