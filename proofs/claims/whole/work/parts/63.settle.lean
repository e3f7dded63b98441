/-! SETTLING UPWARDS -/
/-- one too small node (l, k) under (l + 1, up): does a node go? and the shape then -/
def pv_st1 (low : Nat) (S : pv_Sh) (l k up : Nat) : Bool × pv_Sh :=
  if 0 < k - pv_sum (S.2.2 (l + 1)) up ∧ low < S.2.2 l (k - 1) then (false, pv_set (pv_set S l (k - 1) (S.2.2 l (k - 1) - 1)) l k (S.2.2 l k + 1))
  else if k - pv_sum (S.2.2 (l + 1)) up + 1 < S.2.2 (l + 1) up ∧ low < S.2.2 l (k + 1) then (false, pv_set (pv_set S l (k + 1) (S.2.2 l (k + 1) - 1)) l k (S.2.2 l k + 1))
  else (true, (S.1, va_up S.2.1 l (S.2.1 l - 1), va_up (va_up S.2.2 l (pv_zd (va_up (S.2.2 l) (if 0 < k - pv_sum (S.2.2 (l + 1)) up then k - 1 else k) (S.2.2 l (if 0 < k - pv_sum (S.2.2 (l + 1)) up then k - 1 else k) + S.2.2 l ((if 0 < k - pv_sum (S.2.2 (l + 1)) up then k - 1 else k) + 1))) ((if 0 < k - pv_sum (S.2.2 (l + 1)) up then k - 1 else k) + 1))) (l + 1) (va_up (S.2.2 (l + 1)) up (S.2.2 (l + 1) up - 1))))
def pv_stl (low : Nat) : Nat → pv_Sh → Nat → Nat → pv_Sh
  | 0, S, _, _ => S
  | f + 1, S, l, k => if S.1 ≤ l + 1 then S else if low ≤ S.2.2 l k then S
      else if (pv_st1 low S l k (pv_hd S (l + 1) k)).1 = true then pv_stl low f (pv_st1 low S l k (pv_hd S (l + 1) k)).2 (l + 1) (pv_hd S (l + 1) k) else (pv_st1 low S l k (pv_hd S (l + 1) k)).2
def pv_top : Nat → pv_Sh → pv_Sh
  | 0, S => S
  | f + 1, S => if 1 < S.1 ∧ S.2.2 (S.1 - 1) 0 = 1 then pv_top f (S.1 - 1, S.2.1, S.2.2) else S
section M4
variable {n m0 : Nat} {I : Nat → Int32} {Ar : Nat → Nat → Int32} {Aj : Nat → Nat → Int64}
theorem md_sh.set {S : pv_Sh} (h : md_sh I Ar S) {l k x : Nat} (hl : l < S.1) (hk : k < S.2.1 l) (hx : x < 1000) : md_sh I (md_u Ar 3 (64 * l + k) (nI x)) (pv_set S l k x) := by
  refine ⟨h.1, h.2.1, h.2.2.1, fun l' hl' => ?_⟩
  obtain ⟨p1, p2, p3⟩ := h.2.2.2 l' hl'
  obtain ⟨q1, q2, q3⟩ := h.2.2.2 l hl
  have := h.2.2.1
  have hs := md_set_lv p1 (l' := l) (k := k) (x := x) (by omega) (by omega) hx
  refine ⟨?_, p2, p3⟩
  simp only [pv_set]
  by_cases hll : l' = l
  · subst hll; simpa [va_up] using hs
  · simpa [va_up, hll] using hs
theorem md_del_lv {l c : Nat} {z : Nat → Nat} (h : md_lv Ar l c z) {l' c' i : Nat} {Ar' : Nat → Nat → Int32} (hl' : l' < 8) (hc' : c' < 63) (hi : i ≤ c') (hA3 : Ar' 3 = pv_delF (Ar 3) (64 * l') i (c' + 1)) (hA4 : Ar' 4 = upd (Ar 4) l' (nI c')) (hcc : l = l' → c = c' + 1) : md_lv Ar' l (if l = l' then c - 1 else c) (if l = l' then pv_zd z i else z) := by
  obtain ⟨h1, h2, h3, h4⟩ := h
  by_cases hll : l = l'
  · subst hll
    have hc := hcc rfl
    simp only [if_pos]
    refine ⟨h1, by omega, by rw [hA4, hc]; simp [upd], fun j hj => ?_⟩
    rw [hA3]
    unfold pv_delF pv_zd
    by_cases hj1 : j < i
    · rw [if_neg (by omega), if_pos hj1]; exact h4 j (by omega)
    · rw [if_pos (by omega), if_neg hj1, show 64 * l + j + 1 = 64 * l + (j + 1) by omega]
      exact h4 (j + 1) (by omega)
  · simp only [if_neg hll]
    refine ⟨h1, h2, by rw [hA4]; simpa [upd, hll] using h3, fun j hj => ?_⟩
    rw [hA3]
    unfold pv_delF
    by_cases hj2 : 64 * l' + i ≤ 64 * l + j ∧ 64 * l + j + 1 < 64 * l' + (c' + 1)
    · omega
    · rw [if_neg hj2]; exact h4 j hj
theorem md_settle {S : pv_Sh} (h : md_sh I Ar S) {low l k up : Nat} (hlow : I 1 = nI low) (hlow2 : low < 100) (hl : l + 1 < S.1) (hk : k < S.2.1 l) (hup : up < S.2.1 (l + 1)) (hs1 : pv_sum (S.2.2 (l + 1)) up ≤ k) (hs2 : k < pv_sum (S.2.2 (l + 1)) up + S.2.2 (l + 1) up) (hsum : pv_sum (S.2.2 (l + 1)) up + S.2.2 (l + 1) up ≤ S.2.1 l) (h2 : 2 ≤ S.2.2 (l + 1) up) (hb : ∀ j, j < S.2.1 l → S.2.2 l j < 400) (hpos : ∀ j, j < S.2.1 l → j ≠ k → 0 < S.2.2 l j) :
    ∃ Ar', f_X8_settle m0 (nI l) (nI k) (nI up) (n, md_mk m0 I Ar Aj) = some (if (pv_st1 low S l k up).1 = true then 1 else 0, (n, md_mk m0 I Ar' Aj)) ∧ md_sh I Ar' (pv_st1 low S l k up).2 ∧ md_k34 I I Ar Ar' := by
  obtain ⟨g1, g2, g3⟩ := h.2.2.2 l (by omega)
  obtain ⟨u1, u2, u3⟩ := h.2.2.2 (l + 1) hl
  have h7 := h.2.2.1
  have k34 : ∀ (p : Nat) (x : Int32) (A1 : Nat → Nat → Int32), md_k34 I I A1 (md_u A1 3 p x) := fun p x A1 => ⟨fun _ _ => rfl, fun t t3 t4 => by funext q; simp [md_u, t3]⟩
  unfold f_X8_settle
  rw [md_ob, Option.bind_some, md_placeIn u1 (by omega) hs1 (by omega), Option.bind_some, md_ix]
  generalize hw : k - pv_sum (S.2.2 (l + 1)) up = w
  have hwk : w ≤ k := by omega
  -- what is read of the parent
  have hpar : Ar 3 (64 * (l + 1) + up) = nI (S.2.2 (l + 1) up) := (u1.2.2.2 up hup).1
  have hparb : S.2.2 (l + 1) up < 1000 := (u1.2.2.2 up hup).2
  -- the two tests
  have key : ∀ t0 : Int32, t0 = (if 0 < w then 1 else 0) → ∃ Ar', b_X8_settle_27 m0 (nI l) (nI k) (nI up) (nI (64 * l + k)) (nI w) t0 (n, md_mk m0 I Ar Aj) = some (if (pv_st1 low S l k up).1 = true then 1 else 0, (n, md_mk m0 I Ar' Aj)) ∧ md_sh I Ar' (pv_st1 low S l k up).2 ∧ md_k34 I I Ar Ar' := by
    intro t0 ht0
    unfold b_X8_settle_27
    obtain ⟨zu, hzu⟩ : ∃ zu, S.2.2 (l + 1) up = zu + 1 := ⟨S.2.2 (l + 1) up - 1, by omega⟩
    rw [md_r6, Option.bind_some, Option.bind_some, nI_1, md_ix, md_l3, sw_ix_nI (by omega) (by omega), Option.bind_some, Option.bind_some, hpar, hzu, nI_pred]
    -- the joining
    have join : ∀ tt : Nat, tt = (if 0 < w then k - 1 else k) → ∃ Ar', b_X8_settle_162 m0 (nI l) (nI up) (nI tt) (n, md_mk m0 I Ar Aj) = some (1, (n, md_mk m0 I Ar' Aj)) ∧ md_sh I Ar' (S.1, va_up S.2.1 l (S.2.1 l - 1), va_up (va_up S.2.2 l (pv_zd (va_up (S.2.2 l) tt (S.2.2 l tt + S.2.2 l (tt + 1))) (tt + 1))) (l + 1) (va_up (S.2.2 (l + 1)) up (S.2.2 (l + 1) up - 1))) ∧ md_k34 I I Ar Ar' := by
      intro tt htt
      have htt1 : tt + 1 < S.2.1 l := by
        by_cases h0 : 0 < w
        · rw [if_pos h0] at htt; omega
        · rw [if_neg h0] at htt; omega
      unfold b_X8_settle_162
      obtain ⟨a1, a2⟩ := g1.2.2.2 tt (by omega)
      obtain ⟨b1, b2⟩ := g1.2.2.2 (tt + 1) htt1
      have b1' : Ar 3 (64 * l + tt + 1) = nI (S.2.2 l (tt + 1)) := b1
      have q1 := hb tt (by omega)
      have q2 := hb (tt + 1) htt1
      rw [md_r6, Option.bind_some, Option.bind_some, Option.bind_some, md_ix, md_l3, sw_ix_nI (by omega) (by omega), Option.bind_some, Option.bind_some, Option.bind_some, Option.bind_some, nI_1, md_l3, sw_ix_nI (by omega) (by omega), Option.bind_some, Option.bind_some, Option.bind_some, a1, b1', nI_add, md_s3, sw_ix_nI (by omega) (by omega), Option.bind_some, Option.bind_some, md_ob, Option.bind_some, nI_1]
      obtain ⟨c', hc'⟩ : ∃ c', S.2.1 l = c' + 1 := ⟨S.2.1 l - 1, by omega⟩
      rw [md_removeNode (c := c') (by omega) (by omega) (by omega) (by simp only [md_u, if_neg (show ¬ (4 : Nat) = 3 by decide)]; rw [← hc']; exact g1.2.2.1), Option.bind_some, md_r6, Option.bind_some, Option.bind_some, nI_1, md_ix, md_l3, sw_ix_nI (by omega) (by omega), Option.bind_some, Option.bind_some, md_s3, sw_ix_nI (by omega) (by omega), Option.bind_some, Option.bind_some]
      have hsx := h.set (l := l) (k := tt) (x := S.2.2 l tt + S.2.2 l (tt + 1)) (by omega) (by omega) (by omega)
      generalize hA1 : md_u Ar 3 (64 * l + tt) (nI (S.2.2 l tt + S.2.2 l (tt + 1))) = A1 at hsx
      have kA1 : md_k34 I I Ar A1 := by rw [← hA1]; exact k34 _ _ _
      generalize hA2 : (fun t => if t = 3 then pv_delF (A1 3) (64 * l) (tt + 1) (c' + 1) else if t = 4 then upd (A1 4) l (nI c') else A1 t) = A2
      have kA2 : md_k34 I I A1 A2 := ⟨fun _ _ => rfl, fun t t3 t4 => by rw [← hA2]; simp [t3, t4]⟩
      have hup3 : A2 3 (64 * (l + 1) + up) = nI (S.2.2 (l + 1) up) := by
        rw [← hA2]
        simp only [if_pos]
        unfold pv_delF
        rw [if_neg (by omega), ← hA1]
        simp only [md_u, if_pos]
        rw [if_neg (by omega)]
        exact hpar
      have hsh2 : md_sh I A2 (S.1, va_up S.2.1 l (S.2.1 l - 1), va_up S.2.2 l (pv_zd (va_up (S.2.2 l) tt (S.2.2 l tt + S.2.2 l (tt + 1))) (tt + 1))) := by
        refine ⟨h.1, h.2.1, h.2.2.1, fun l' hl' => ?_⟩
        obtain ⟨p1, p2, p3⟩ := hsx.2.2.2 l' hl'
        have hd := md_del_lv p1 (l' := l) (c' := c') (i := tt + 1) (Ar' := A2) (by omega) (by omega) (by omega) (by rw [← hA2]; rfl) (by rw [← hA2]; rfl) (fun e => by rw [e]; exact hc')
        simp only [pv_set] at hd p2 p3 ⊢
        by_cases hll : l' = l
        · subst hll
          simp only [va_up_self, if_pos] at hd ⊢
          exact ⟨hd, by omega, by omega⟩
        · simp only [va_up_ne _ _ hll, if_neg hll] at hd ⊢
          exact ⟨hd, p2, p3⟩
      have hsh3 := hsh2.set (l := l + 1) (k := up) (x := zu) hl (by simp only [va_up_ne _ _ (show l + 1 ≠ l by omega)]; exact hup) (by omega)
      simp only [pv_set, va_up_ne _ _ (show l + 1 ≠ l by omega)] at hsh3
      rw [show (if (3 : Nat) = 3 then pv_delF (A1 3) (64 * l) (tt + 1) (c' + 1) else if (3 : Nat) = 4 then upd (A1 4) l (nI c') else A1 3) (64 * (l + 1) + up) = nI (S.2.2 (l + 1) up) from by rw [← hup3, ← hA2], hzu, nI_pred]
      refine ⟨_, rfl, ?_, (kA1.tr kA2).tr (k34 _ _ _)⟩
      simpa [hzu] using hsh3
    have hb2 : (if 0 < k - pv_sum (S.2.2 (l + 1)) up then k - 1 else k) = (if 0 < w then k - 1 else k) := by rw [hw]
    -- both joins lead here
    have j150 : (pv_st1 low S l k up) = (true, (S.1, va_up S.2.1 l (S.2.1 l - 1), va_up (va_up S.2.2 l (pv_zd (va_up (S.2.2 l) (if 0 < w then k - 1 else k) (S.2.2 l (if 0 < w then k - 1 else k) + S.2.2 l ((if 0 < w then k - 1 else k) + 1))) ((if 0 < w then k - 1 else k) + 1))) (l + 1) (va_up (S.2.2 (l + 1)) up (S.2.2 (l + 1) up - 1)))) → ∃ Ar', b_X8_settle_150 m0 (nI l) (nI k) (nI up) t0 (n, md_mk m0 I Ar Aj) = some (if (pv_st1 low S l k up).1 = true then 1 else 0, (n, md_mk m0 I Ar' Aj)) ∧ md_sh I Ar' (pv_st1 low S l k up).2 ∧ md_k34 I I Ar Ar' := by
      intro he
      rw [he]
      unfold b_X8_settle_150
      by_cases h0 : 0 < w
      · rw [ht0, if_pos h0, if_neg (by decide)]
        obtain ⟨k', rfl⟩ : ∃ k', k = k' + 1 := ⟨k - 1, by omega⟩
        rw [nI_pred]
        have := join k' (by rw [if_pos h0]; rfl)
        simpa [h0] using this
      · rw [ht0, if_neg h0, if_pos rfl]
        have := join k (by rw [if_neg h0])
        simpa [h0] using this
    have j103 : ¬ (0 < w ∧ low < S.2.2 l (k - 1)) → ∀ t1 : Int32, t1 = (if w + 1 < S.2.2 (l + 1) up then 1 else 0) → ∃ Ar', b_X8_settle_103 m0 (nI l) (nI k) (nI up) (nI (64 * l + k)) t0 t1 (n, md_mk m0 I Ar Aj) = some (if (pv_st1 low S l k up).1 = true then 1 else 0, (n, md_mk m0 I Ar' Aj)) ∧ md_sh I Ar' (pv_st1 low S l k up).2 ∧ md_k34 I I Ar Ar' := by
      intro hnl t1 ht1
      unfold b_X8_settle_103
      by_cases hr : w + 1 < S.2.2 (l + 1) up
      · rw [ht1, if_pos hr, if_neg (by decide)]
        have hk1 : k + 1 < S.2.1 l := by omega
        obtain ⟨b1, b2⟩ := g1.2.2.2 (k + 1) hk1
        have b1' : Ar 3 (64 * l + k + 1) = nI (S.2.2 l (k + 1)) := b1
        rw [md_r6, Option.bind_some, Option.bind_some, nI_1, md_l3, sw_ix_nI (by omega) (by omega), Option.bind_some, Option.bind_some, md_g1, Option.bind_some, hlow, b1']
        by_cases hb3 : low < S.2.2 l (k + 1)
        · rw [if_neg (nI_ge hb3 (by omega)), Option.bind_some, Option.bind_some, md_l3, sw_ix_nI (by omega) (by omega), Option.bind_some, Option.bind_some, b1']
          obtain ⟨z', hz'⟩ : ∃ z', S.2.2 l (k + 1) = z' + 1 := ⟨S.2.2 l (k + 1) - 1, by omega⟩
          rw [hz', nI_pred, md_s3, sw_ix_nI (by omega) (by omega), Option.bind_some, Option.bind_some, md_r6, Option.bind_some, Option.bind_some, md_l3, sw_ix_nI (by omega) (by omega), Option.bind_some, Option.bind_some, md_s3, sw_ix_nI (by omega) (by omega), Option.bind_some, Option.bind_some]
          have he : pv_st1 low S l k up = (false, pv_set (pv_set S l (k + 1) (S.2.2 l (k + 1) - 1)) l k (S.2.2 l k + 1)) := by
            unfold pv_st1
            rw [hw, if_neg hnl, if_pos ⟨hr, hb3⟩]
          rw [he]
          obtain ⟨a1, a2⟩ := g1.2.2.2 k hk
          have a3 : md_u Ar 3 (64 * l + k + 1) (nI z') 3 (64 * l + k) = nI (S.2.2 l k) := by
            simp only [md_u, if_pos]; rw [if_neg (by omega)]; exact a1
          have hkb := hb k hk
          have s1 := h.set (l := l) (k := k + 1) (x := z') (by omega) hk1 (by omega)
          have s2 := s1.set (l := l) (k := k) (x := S.2.2 l k + 1) (by exact (by omega : l < S.1)) hk (by omega)
          rw [a3, nI_1]
          refine ⟨_, rfl, ?_, (k34 _ _ _).tr (k34 _ _ _)⟩
          rw [show S.2.2 l (k + 1) - 1 = z' by omega]
          exact s2
        · rw [if_pos (nI_le (by omega) (by omega))]
          apply j150
          unfold pv_st1
          rw [hw, if_neg hnl, if_neg (fun q => hb3 q.2)]
      · rw [ht1, if_neg hr, if_pos rfl]
        apply j150
        unfold pv_st1
        rw [hw, if_neg hnl, if_neg (fun q => hr q.1)]
    have j54 : ∀ t1 : Int32, t1 = (if w + 1 < S.2.2 (l + 1) up then 1 else 0) → ∃ Ar', b_X8_settle_54 m0 (nI l) (nI k) (nI up) (nI (64 * l + k)) t0 t1 (n, md_mk m0 I Ar Aj) = some (if (pv_st1 low S l k up).1 = true then 1 else 0, (n, md_mk m0 I Ar' Aj)) ∧ md_sh I Ar' (pv_st1 low S l k up).2 ∧ md_k34 I I Ar Ar' := by
      intro t1 ht1
      unfold b_X8_settle_54
      by_cases h0 : 0 < w
      · rw [ht0, if_pos h0, if_neg (by decide)]
        obtain ⟨k', hk'⟩ : ∃ k', k = k' + 1 := ⟨k - 1, by omega⟩
        have e1 : nI (64 * l + k) - 1 = nI (64 * l + k') := by rw [hk', show 64 * l + (k' + 1) = (64 * l + k') + 1 by omega, nI_pred]
        obtain ⟨b1, b2⟩ := g1.2.2.2 k' (by omega)
        rw [md_r6, Option.bind_some, Option.bind_some, e1, md_l3, sw_ix_nI (by omega) (by omega), Option.bind_some, Option.bind_some, md_g1, Option.bind_some, hlow, b1]
        by_cases hb3 : low < S.2.2 l k'
        · rw [if_neg (nI_ge hb3 (by omega)), Option.bind_some, Option.bind_some, md_l3, sw_ix_nI (by omega) (by omega), Option.bind_some, Option.bind_some, b1]
          obtain ⟨z', hz'⟩ : ∃ z', S.2.2 l k' = z' + 1 := ⟨S.2.2 l k' - 1, by omega⟩
          rw [hz', nI_pred, md_s3, sw_ix_nI (by omega) (by omega), Option.bind_some, Option.bind_some, md_r6, Option.bind_some, Option.bind_some, md_l3, sw_ix_nI (by omega) (by omega), Option.bind_some, Option.bind_some, md_s3, sw_ix_nI (by omega) (by omega), Option.bind_some, Option.bind_some]
          have he : pv_st1 low S l k up = (false, pv_set (pv_set S l (k - 1) (S.2.2 l (k - 1) - 1)) l k (S.2.2 l k + 1)) := by
            unfold pv_st1
            rw [hw, if_pos ⟨h0, by rw [hk']; exact hb3⟩]
          rw [he]
          obtain ⟨a1, a2⟩ := g1.2.2.2 k hk
          have a3 : md_u Ar 3 (64 * l + k') (nI z') 3 (64 * l + k) = nI (S.2.2 l k) := by
            simp only [md_u, if_pos]; rw [if_neg (by omega)]; exact a1
          have hkb := hb k hk
          have s1 := h.set (l := l) (k := k') (x := z') (by omega) (by omega) (by omega)
          have s2 := s1.set (l := l) (k := k) (x := S.2.2 l k + 1) (by exact (by omega : l < S.1)) hk (by omega)
          rw [a3, nI_1]
          refine ⟨_, rfl, ?_, (k34 _ _ _).tr (k34 _ _ _)⟩
          rw [show k - 1 = k' by omega, hz']
          exact s2
        · rw [if_pos (nI_le (by omega) (by omega))]
          have := j103 (fun q => hb3 (by rw [show k' = k - 1 by omega]; exact q.2)) t1 ht1
          rw [ht0, if_pos h0] at this
          exact this
      · rw [ht0, if_neg h0, if_pos rfl]
        have := j103 (fun q => h0 q.1) t1 ht1
        rw [ht0, if_neg h0] at this
        exact this
    by_cases hr : w + 1 < S.2.2 (l + 1) up
    · rw [if_neg (nI_ge (by omega) (by omega))]
      exact j54 1 (by rw [if_pos hr])
    · rw [if_pos (nI_le (by omega) (by omega))]
      exact j54 0 (by rw [if_neg hr])
  by_cases h0 : 0 < w
  · rw [if_neg (nI_nle h0 (by omega))]
    exact key 1 (by rw [if_pos h0])
  · obtain rfl : w = 0 := by omega
    rw [if_pos (by decide)]
    exact key 0 rfl
end M4
