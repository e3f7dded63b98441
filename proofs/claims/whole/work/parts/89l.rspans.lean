/-! THE REFERENCE'S SPANS, and whether a proof is right -/
/-- all that is flat of a whole proof -/
def fw (f : Nat → Int32) (T : Nat) (G : Nat → ps_N) (R : ps_R) : Prop :=
  (∀ x, x < R.2.2.1.length → nf f T G (kk R.2.1) x R.2.2.1.length ∧ nb (G x) + ow (G x) = (if x + 1 < R.2.2.1.length then nb (G (x + 1)) else R.2.1.length) ∧ (nb (G x) < ne (G x) → (nl (G x)).1 = (kk R.2.1 (nb (G x))).1) ∧ ne (G x) ≤ R.2.1.length) ∧
  (∀ x, 0 < x → x < R.2.2.1.length → np (G x) < x ∧ nb (G x) < ne (G x) ∧ nk (G (np (G x))) = 2) ∧
  (∀ c, c ∈ R.2.2.2.1 → ∃ x, 0 < x ∧ x < R.2.2.1.length ∧ nk (G x) ≠ 0 ∧ c = (nb (G x), ne (G x))) ∧ (∀ x, 0 < x → x < R.2.2.1.length → nk (G x) ≠ 0 → (nb (G x), ne (G x)) ∈ R.2.2.2.1) ∧
  nb (G 0) = 0 ∧ ne (G 0) = R.2.1.length ∧ nk (G 0) ≠ 0 ∧ nl (G 0) = R.2.2.2.2 ∧ 0 < R.2.2.1.length ∧ R.2.2.1.length ≤ 120 ∧ R.2.1.length ≤ 120
theorem fw_of {f : Nat → Int32} {T F : Nat} {R : ps_R} (hF : F ≤ 5) (hT : T ≤ 240) (h : ps0 f T F = some R) : ∃ G : Nat → ps_N, hp (fun x a => G x = a) 0 R.2.2.1 ∧ fw f T G R := by
  refine ⟨fun j => R.2.2.1.getD (j - 0) ((0, 0, 0, 0), (0, 0), (0, 0, 0)), hp_gd _ _ _, ?_⟩
  have hG := hp_gd R.2.2.1 0 ((0, 0, 0, 0), (0, 0), (0, 0, 0))
  generalize (fun j => R.2.2.1.getD (j - 0) ((0, 0, 0, 0), (0, 0), (0, 0, 0))) = G at hG ⊢
  have hK : hp (fun x N => kk R.2.1 x = N) 0 R.2.1 := hp_of fun j hj => by
    rw [Nat.zero_add]
    exact kk_get hj
  obtain ⟨⟨b1, b2, b3, b4, b5, b6, b7⟩, c1, c2, c3, c4⟩ := ps_flat hF 6 h hG hK
  obtain ⟨l1, l2, l3, l4, -⟩ := ps_len hF 6 h
  simp only [Nat.zero_add] at c1 c2 c3 c4 b3
  refine ⟨fun x hx => ?_, fun x x1 x2 => ?_, c3, c4, b2, b3, ?_, b4, l4, by omega, by omega⟩
  · obtain ⟨d1, d2, d3, d4, d5⟩ := c1 x (Nat.zero_le _) hx
    exact ⟨d1, d2, d3, d5⟩
  · obtain ⟨d1, d2, d3, d4⟩ := c2 x x1 x2
    refine ⟨d2, d3, d4.elim (fun e => ?_) id⟩
    rw [e]
    exact b7 (by omega)
  · intro q
    have q2 := b5.mp q
    obtain ⟨-, h⟩ := ps_inv hF h
    rcases h with ⟨-, q3, -, -, -⟩ | ⟨z, q1, -, -, -, -, -⟩ | ⟨z, s, q1, -, -, -, -, -⟩
    · cases q3
    · rw [q2] at q1; cases q1
    · rw [q2] at q1; cases q1
theorem mj_e {Ar : Nat → Nat → Int64} {t j : Nat} {v : Int64} : md_u Ar t j v t j = v := by simp [md_u]
theorem mj_n {Ar : Nat → Nat → Int64} {t j t' j' : Nat} {v : Int64} (h : t' ≠ t ∨ j' ≠ j) : md_u Ar t j v t' j' = Ar t' j' := by
  unfold md_u
  by_cases q : t' = t
  · rw [if_pos q, if_neg (by omega)]
  · rw [if_neg q]
theorem mj_r {Ar : Nat → Nat → Int64} {t j t' : Nat} {v : Int64} (h : t' ≠ t) : md_u Ar t j v t' = Ar t' := by
  funext i
  exact mj_n (Or.inl h)
def spn (Aj : Nat → Nat → Int64) (G : Nat → ps_N) (K : List ps_K) (y : Nat) : Prop := Aj 19 y = kF K (nb (G y)) ∧ Aj 20 y = kE K (ne (G y))
theorem ch_mono {G : Nat → ps_N} {x m : Nat} {c : Nat → Nat} (hc : ch G x m c) : ∀ i j, i < j → j ≤ nz (G x) → c i < c j := by
  intro i j
  induction j with
  | zero => intro q; omega
  | succ j ih =>
    intro q1 q2
    have h1 := (hc.2.2.1 j (by omega)).1
    by_cases q : i = j
    · subst q; exact h1
    · have := ih (by omega) (by omega); omega
theorem ch_mem {G : Nat → ps_N} {x m : Nat} {c : Nat → Nat} (hc : ch G x m c) {y : Nat} (hy : x < y) (hm : y < m) (hp : np (G y) = x) : ∃ t, t < nz (G x) ∧ y = c t := by
  have key : ∀ i, i ≤ nz (G x) → y < c i → ∃ t, t < nz (G x) ∧ y = c t := by
    intro i
    induction i with
    | zero => intro _ q; rw [hc.1] at q; omega
    | succ i ih =>
      intro q1 q2
      by_cases q3 : y < c i
      · exact ih (by omega) q3
      · by_cases q4 : y = c i
        · exact ⟨i, by omega, q4⟩
        · exact absurd hp ((hc.2.2.1 i (by omega)).2.2 y (by omega) q2)
  by_cases q : y < c (nz (G x))
  · exact key _ (Nat.le_refl _) q
  · exact absurd hp (hc.2.2.2.1 y (by omega) hm)
section RSP
variable {N m0 : Nat} {I : Nat → Int32} {Ar : Nat → Nat → Int32} {f : Nat → Int32} {T : Nat} {G : Nat → ps_N} {R : ps_R}
theorem sp_skip {x m : Nat} {Aj : Nat → Nat → Int64} (h16 : I 16 = nI m) (hm : m ≤ 299) (hx : x < 300) (h12 : Ar 12 x = 2) (rec20 : Nat → Int32 → sw_S → Option sw_S) (v2 : Int32) : ∀ (r a fuel : Nat), a + r ≤ m → (∀ j, a ≤ j → j < a + r → Ar 13 j = nI (np (G j)) ∧ np (G j) < 300 ∧ np (G j) ≠ x) → b_X8_spans_34 rec20 (fuel + r) m0 (nI x) v2 (nI a) (N, md_mk m0 I Ar Aj) = b_X8_spans_34 rec20 fuel m0 (nI x) v2 (nI (a + r)) (N, md_mk m0 I Ar Aj) := by
  intro r
  induction r with
  | zero => intro a fuel _ _; rfl
  | succ r ih =>
    intro a fuel ha hq
    obtain ⟨q1, q2, q3⟩ := hq a (Nat.le_refl _) (by omega)
    have := ih (a + 1) fuel (by omega) fun j j1 j2 => hq j (by omega) (by omega)
    rw [show a + (r + 1) = a + 1 + r by omega, ← this]
    show B_X8_spans_34 _ _ _ _ _ _ _ = _
    unfold B_X8_spans_34 b_X8_spans_119
    rw [md_g16, Option.bind_some, h16, if_neg (nI_ge (by omega) (by omega)), md_r17, Option.bind_some, Option.bind_some, md_l12, sw_ix_nI hx (by omega), Option.bind_some, Option.bind_some, if_pos h12, md_r18, Option.bind_some, Option.bind_some, md_l13, sw_ix_nI (by omega) (by omega), Option.bind_some, Option.bind_some, q1, if_neg (fun e => q3 ((nI_eq (by omega) (by omega)).mp e)), nI_1]
    rfl
theorem sp_child0 {x m y : Nat} {Aj : Nat → Nat → Int64} (h16 : I 16 = nI m) (hm : m ≤ 299) (hx : x < 300) (h12 : Ar 12 x = 2) (rec20 : Nat → Int32 → sw_S → Option sw_S) (fuel : Nat) (hy : y < m) (h13 : Ar 13 y = nI x) : b_X8_spans_34 rec20 (fuel + 1) m0 (nI x) (-1) (nI y) (N, md_mk m0 I Ar Aj) = b_X8_spans_34 rec20 fuel m0 (nI x) (nI y) (nI (y + 1)) (N, md_mk m0 I Ar (md_u (md_u Aj 19 y (Aj 19 x)) 20 y (Aj 20 x))) := by
  show B_X8_spans_34 _ _ _ _ _ _ _ = _
  unfold B_X8_spans_34 b_X8_spans_87 b_X8_spans_105 b_X8_spans_119
  rw [md_g16, Option.bind_some, h16, if_neg (nI_ge hy (by omega)), md_r17, Option.bind_some, Option.bind_some, md_l12, sw_ix_nI hx (by omega), Option.bind_some, Option.bind_some, if_pos h12, md_r18, Option.bind_some, Option.bind_some, md_l13, sw_ix_nI (by omega) (by omega), Option.bind_some, Option.bind_some, h13, if_pos rfl, md_r24, Option.bind_some, if_neg (by decide), Option.bind_some, Option.bind_some, md_l19, sw_ix_nI hx (by omega), Option.bind_some, Option.bind_some, Option.bind_some, md_s19, sw_ix_nI (by omega) (by omega), Option.bind_some, Option.bind_some, if_pos (by decide), md_r25, Option.bind_some, Option.bind_some, Option.bind_some, md_l20, sw_ix_nI hx (by omega), Option.bind_some, Option.bind_some, Option.bind_some, md_s20, sw_ix_nI (by omega) (by omega), Option.bind_some, Option.bind_some, mj_n (Or.inl (by decide)), nI_1]
theorem sp_child1 {x m y w : Nat} {Aj : Nat → Nat → Int64} (h16 : I 16 = nI m) (hm : m ≤ 299) (hx : x < 300) (h12 : Ar 12 x = 2) (rec20 : Nat → Int32 → sw_S → Option sw_S) (fuel : Nat) (hy : y < m) (h13 : Ar 13 y = nI x) (hw : w < 300) (hwx : w ≠ x) : b_X8_spans_34 rec20 (fuel + 1) m0 (nI x) (nI w) (nI y) (N, md_mk m0 I Ar Aj) = b_X8_spans_34 rec20 fuel m0 (nI x) (nI y) (nI (y + 1)) (N, md_mk m0 I Ar (md_u (md_u (md_u Aj 19 y (Ar 16 y).toInt64) 20 w (Ar 16 y).toInt64) 20 y (Aj 20 x))) := by
  show B_X8_spans_34 _ _ _ _ _ _ _ = _
  unfold B_X8_spans_34 b_X8_spans_87 b_X8_spans_105 b_X8_spans_119
  rw [md_g16, Option.bind_some, h16, if_neg (nI_ge hy (by omega)), md_r17, Option.bind_some, Option.bind_some, md_l12, sw_ix_nI hx (by omega), Option.bind_some, Option.bind_some, if_pos h12, md_r18, Option.bind_some, Option.bind_some, md_l13, sw_ix_nI (by omega) (by omega), Option.bind_some, Option.bind_some, h13, if_pos rfl, md_r24, Option.bind_some, if_pos (nI_pos' (by omega)), md_r21, Option.bind_some, Option.bind_some, md_l16, sw_ix_nI (by omega) (by omega), Option.bind_some, Option.bind_some, Option.bind_some, md_s19, sw_ix_nI (by omega) (by omega), Option.bind_some, Option.bind_some, if_neg (Int32.not_lt.mpr (nI_pos' (by omega))), md_r25, Option.bind_some, md_r21, Option.bind_some, Option.bind_some, md_l16, sw_ix_nI (by omega) (by omega), Option.bind_some, Option.bind_some, Option.bind_some, md_s20, sw_ix_nI hw (by omega), Option.bind_some, Option.bind_some, md_r25, Option.bind_some, Option.bind_some, Option.bind_some, md_l20, sw_ix_nI hx (by omega), Option.bind_some, Option.bind_some, Option.bind_some, md_s20, sw_ix_nI (by omega) (by omega), Option.bind_some, Option.bind_some, mj_n (Or.inr (fun e => hwx e.symm)), mj_n (Or.inl (by decide)), nI_1]
theorem sp_in (h : fw f T G R) (h16 : I 16 = nI R.2.2.1.length) (hn : ∀ y, y < R.2.2.1.length → Ar 12 y = nI (nk (G y)) ∧ Ar 13 y = nI (np (G y)) ∧ Ar 16 y = (nl (G y)).1) {x : Nat} (hx : x < R.2.2.1.length) (hk : nk (G x) = 2) {c : Nat → Nat} (hc : ch G x R.2.2.1.length c) (rec20 : Nat → Int32 → sw_S → Option sw_S) :
    ∀ (r i fuel : Nat) {Aj : Nat → Nat → Int64}, i + r = nz (G x) → R.2.2.1.length - c i < fuel → (∀ y, y < R.2.2.1.length → (y = 0 ∨ np (G y) < x) → spn Aj G R.2.1 y) → (∀ t, t + 1 < i → spn Aj G R.2.1 (c t)) → (0 < i → Aj 19 (c (i - 1)) = kF R.2.1 (nb (G (c (i - 1)))) ∧ Aj 20 (c (i - 1)) = kE R.2.1 (ne (G x))) →
    ∃ Aj', b_X8_spans_34 rec20 fuel m0 (nI x) (if i = 0 then -1 else nI (c (i - 1))) (nI (c i)) (N, md_mk m0 I Ar Aj) = rec20 m0 (nI (x + 1)) (N, md_mk m0 I Ar Aj') ∧ (∀ y, y < R.2.2.1.length → (y = 0 ∨ np (G y) < x + 1) → spn Aj' G R.2.1 y) ∧ ∀ t, t ≠ 19 → t ≠ 20 → Aj' t = Aj t := by
  obtain ⟨w1, w2, w3, w4, w5, w6, w7, w8, w9, w10, w11⟩ := h
  obtain ⟨kc, k0, kz, ks⟩ := hc.2.2.2.2.1
  have h12 : Ar 12 x = 2 := by rw [(hn x hx).1, hk]; rfl
  have hcm : ∀ i, i ≤ nz (G x) → x + 1 ≤ c i ∧ c i ≤ R.2.2.1.length := by
    intro i hi
    constructor
    · by_cases q : i = 0
      · subst q; rw [hc.1]; exact Nat.le_refl _
      · have := ch_mono hc 0 i (by omega) hi
        rw [hc.1] at this; omega
    · by_cases q : i = nz (G x)
      · subst q; exact hc.2.1
      · have := ch_mono hc i _ (by omega) (Nat.le_refl _)
        have := hc.2.1
        omega
  have hcl : ∀ i, i < nz (G x) → c i < R.2.2.1.length := fun i hi => by
    have := (hc.2.2.1 i hi).1
    have := (hcm (i + 1) (by omega)).2
    omega
  have hpa : ∀ j, 0 < j → j < R.2.2.1.length → Ar 13 j = nI (np (G j)) ∧ np (G j) < 300 := fun j j0 j1 => ⟨(hn j j1).2.1, by have := (w2 j j0 j1).1; omega⟩
  intro r
  induction r with
  | zero =>
    intro i fuel Aj hi hf hA hB hC
    obtain rfl : i = nz (G x) := by omega
    obtain ⟨z1, z2, -⟩ := (w1 x hx).1.2.2.2 hk
    obtain ⟨q1, q2⟩ := hcm _ (Nat.le_refl (nz (G x)))
    obtain ⟨g, rfl⟩ : ∃ g, fuel = (g + 1) + (R.2.2.1.length - c (nz (G x))) := ⟨fuel - 1 - (R.2.2.1.length - c (nz (G x))), by omega⟩
    refine ⟨Aj, ?_, fun y y1 y2 => ?_, fun _ _ _ => rfl⟩
    · rw [sp_skip (G := G) h16 (by omega) (by omega) h12 rec20 _ _ _ _ (by omega) (fun j j1 j2 => ⟨(hpa j (by omega) (by omega)).1, (hpa j (by omega) (by omega)).2, hc.2.2.2.1 j j1 (by omega)⟩)]
      show B_X8_spans_34 _ _ _ _ _ _ _ = _
      unfold B_X8_spans_34 b_X8_spans_125
      rw [md_g16, Option.bind_some, h16, if_pos (nI_le (by omega) (by omega)), nI_1]
    · by_cases q3 : y = 0
      · exact hA y y1 (Or.inl q3)
      · by_cases q4 : np (G y) < x
        · exact hA y y1 (Or.inr q4)
        · have q5 : np (G y) = x := by omega
          have := (w2 y (by omega) y1).1
          obtain ⟨t, t1, t2⟩ := ch_mem hc (by omega) y1 q5
          subst t2
          by_cases q6 : t + 1 < nz (G x)
          · exact hB t q6
          · have e : t = nz (G x) - 1 := by omega
            subst e
            obtain ⟨d1, d2⟩ := hC (by omega)
            refine ⟨d1, ?_⟩
            rw [d2]
            have := (ks _ t1).2
            rw [this, show nz (G x) - 1 + 1 = nz (G x) by omega, kz]
  | succ r ih =>
    intro i fuel Aj hi hf hA hB hC
    have hil : i < nz (G x) := by omega
    obtain ⟨s1, s2, s3⟩ := hc.2.2.1 i hil
    have ci := hcl i hil
    obtain ⟨q1, q2⟩ := hcm i (by omega)
    obtain ⟨q3, q4⟩ := hcm (i + 1) (by omega)
    obtain ⟨b1, b2⟩ := ks i hil
    have hci := w2 (c i) (by omega) ci
    have hwci := w1 (c i) ci
    have hle := hwci.2.2.1 hci.2.1
    have hA16 : Ar 16 (c i) = (kk R.2.1 (nb (G (c i)))).1 := by rw [(hn _ ci).2.2]; exact hle
    have hlt : nb (G (c i)) < R.2.1.length := by have := hwci.2.2.2; omega
    have h13 : Ar 13 (c i) = nI x := by rw [(hn _ ci).2.1, s2]
    have hspx : spn Aj G R.2.1 x := by
      refine hA x hx ?_
      by_cases q : x = 0
      · exact Or.inl q
      · exact Or.inr (w2 x (by omega) hx).1
    obtain ⟨g, rfl⟩ : ∃ g, fuel = (g + (c (i + 1) - (c i + 1))) + 1 := ⟨fuel - 1 - (c (i + 1) - (c i + 1)), by omega⟩
    have hsk : ∀ Aj2, b_X8_spans_34 rec20 (g + (c (i + 1) - (c i + 1))) m0 (nI x) (nI (c i)) (nI (c i + 1)) (N, md_mk m0 I Ar Aj2) = b_X8_spans_34 rec20 g m0 (nI x) (nI (c i)) (nI (c (i + 1))) (N, md_mk m0 I Ar Aj2) := by
      intro Aj2
      have := sp_skip (N := N) (m0 := m0) (Aj := Aj2) (G := G) h16 (by omega) (by omega) h12 rec20 (nI (c i)) (c (i + 1) - (c i + 1)) (c i + 1) g (by omega) (fun j j1 j2 => ⟨(hpa j (by omega) (by omega)).1, (hpa j (by omega) (by omega)).2, s3 j (by omega) (by omega)⟩)
      rw [this, show c i + 1 + (c (i + 1) - (c i + 1)) = c (i + 1) by omega]
    by_cases q0 : i = 0
    · subst q0
      rw [if_pos rfl, sp_child0 h16 (by omega) (by omega) h12 rec20 _ ci h13, hsk]
      have key := ih 1 g (Aj := md_u (md_u Aj 19 (c 0) (Aj 19 x)) 20 (c 0) (Aj 20 x)) (by omega) (by show R.2.2.1.length - c (0 + 1) < g; omega) (fun y y1 y2 => by
        have hne : y ≠ c 0 := by
          intro e
          subst e
          rcases y2 with y2 | y2
          · omega
          · rw [s2] at y2; omega
        obtain ⟨d1, d2⟩ := hA y y1 y2
        exact ⟨by rw [mj_n (Or.inl (by decide)), mj_n (Or.inr hne)]; exact d1, by rw [mj_n (Or.inr hne), mj_n (Or.inl (by decide))]; exact d2⟩) (fun t ht => by omega) (fun _ => ⟨by
          show md_u (md_u Aj 19 (c 0) (Aj 19 x)) 20 (c 0) (Aj 20 x) 19 (c 0) = _
          rw [mj_n (Or.inl (by decide)), mj_e, hspx.1]
          show _ = kF R.2.1 (nb (G (c 0)))
          rw [b1, k0], by
          show md_u (md_u Aj 19 (c 0) (Aj 19 x)) 20 (c 0) (Aj 20 x) 20 (c 0) = _
          rw [mj_e]; exact hspx.2⟩)
      obtain ⟨Aj', e1, e2, e3⟩ := key
      refine ⟨Aj', e1, e2, fun t t1 t2 => ?_⟩
      rw [e3 t t1 t2, mj_r t2, mj_r t1]
    · obtain ⟨j, rfl⟩ : ∃ j, i = j + 1 := ⟨i - 1, by omega⟩
      obtain ⟨p1, p2, p3⟩ := hc.2.2.1 j (by omega)
      have cj := hcl j (by omega)
      obtain ⟨q5, q6⟩ := hcm j (by omega)
      obtain ⟨b3, b4⟩ := ks j (by omega)
      obtain ⟨d1, d2⟩ := hC (by omega)
      have d1 : Aj 19 (c j) = kF R.2.1 (nb (G (c j))) := d1
      have d2 : Aj 20 (c j) = kE R.2.1 (ne (G x)) := d2
      rw [if_neg (by omega), show j + 1 - 1 = j by omega, sp_child1 h16 (by omega) (by omega) h12 rec20 _ ci h13 (by omega) (by omega), hsk]
      have hnb : nb (G (c (j + 1))) = ne (G (c j)) := by rw [b1, b4]
      have hjp := (w2 (c j) (by omega) cj).2.1
      have key := ih (j + 1 + 1) g (Aj := md_u (md_u (md_u Aj 19 (c (j + 1)) (Ar 16 (c (j + 1))).toInt64) 20 (c j) (Ar 16 (c (j + 1))).toInt64) 20 (c (j + 1)) (Aj 20 x)) (by omega) (by omega) (fun y y1 y2 => by
        have hne : y ≠ c (j + 1) := by
          intro e
          subst e
          rcases y2 with y2 | y2
          · omega
          · rw [s2] at y2; omega
        have hne2 : y ≠ c j := by
          intro e
          subst e
          rcases y2 with y2 | y2
          · omega
          · rw [p2] at y2; omega
        obtain ⟨d1, d2⟩ := hA y y1 y2
        exact ⟨by rw [mj_n (Or.inl (by decide)), mj_n (Or.inl (by decide)), mj_n (Or.inr hne)]; exact d1, by rw [mj_n (Or.inr hne), mj_n (Or.inr hne2), mj_n (Or.inl (by decide))]; exact d2⟩) (fun t ht => by
        by_cases e : t = j
        · subst e
          refine ⟨?_, ?_⟩
          · rw [mj_n (Or.inl (by decide)), mj_n (Or.inl (by decide)), mj_n (Or.inr (by omega))]; exact d1
          · rw [mj_n (Or.inr (by omega)), mj_e, hA16, ← hnb]
            unfold kE
            rw [if_pos hlt]
        · have ht' : t < j := by omega
          have m1 := ch_mono hc t j ht' (by omega)
          obtain ⟨u1, u2⟩ := hB t (by omega)
          refine ⟨?_, ?_⟩
          · rw [mj_n (Or.inl (by decide)), mj_n (Or.inl (by decide)), mj_n (Or.inr (by omega))]; exact u1
          · rw [mj_n (Or.inr (by omega)), mj_n (Or.inr (by omega)), mj_n (Or.inl (by decide))]; exact u2) (fun _ => by
        show md_u (md_u (md_u Aj 19 (c (j + 1)) (Ar 16 (c (j + 1))).toInt64) 20 (c j) (Ar 16 (c (j + 1))).toInt64) 20 (c (j + 1)) (Aj 20 x) 19 (c (j + 1)) = _ ∧ md_u (md_u (md_u Aj 19 (c (j + 1)) (Ar 16 (c (j + 1))).toInt64) 20 (c j) (Ar 16 (c (j + 1))).toInt64) 20 (c (j + 1)) (Aj 20 x) 20 (c (j + 1)) = _
        refine ⟨?_, ?_⟩
        · rw [mj_n (Or.inl (by decide)), mj_n (Or.inl (by decide)), mj_e, hA16]
          show _ = kF R.2.1 (nb (G (c (j + 1))))
          unfold kF
          rw [if_neg (by omega)]
        · rw [mj_e]; exact hspx.2)
      rw [if_neg (by omega), show j + 1 + 1 - 1 = j + 1 by omega] at key
      obtain ⟨Aj', e1, e2, e3⟩ := key
      refine ⟨Aj', e1, e2, fun t t1 t2 => ?_⟩
      rw [e3 t t1 t2, mj_r t2, mj_r t2, mj_r t1]
theorem sp_out (h : fw f T G R) (h16 : I 16 = nI R.2.2.1.length) (hn : ∀ y, y < R.2.2.1.length → Ar 12 y = nI (nk (G y)) ∧ Ar 13 y = nI (np (G y)) ∧ Ar 16 y = (nl (G y)).1) : ∀ (r x fuel : Nat) {Aj : Nat → Nat → Int64}, x + r = R.2.2.1.length → r < fuel → (∀ y, y < R.2.2.1.length → (y = 0 ∨ np (G y) < x) → spn Aj G R.2.1 y) →
    ∃ Aj', b_X8_spans_20 fuel m0 (nI x) (N, md_mk m0 I Ar Aj) = some (N, md_mk m0 I Ar Aj') ∧ (∀ y, y < R.2.2.1.length → spn Aj' G R.2.1 y) ∧ ∀ t, t ≠ 19 → t ≠ 20 → Aj' t = Aj t := by
  have hh := h
  obtain ⟨w1, w2, w3, w4, w5, w6, w7, w8, w9, w10, w11⟩ := h
  intro r
  induction r with
  | zero =>
    intro x fuel Aj hx hf hA
    obtain ⟨g, rfl⟩ : ∃ g, fuel = g + 1 := ⟨fuel - 1, by omega⟩
    refine ⟨Aj, ?_, fun y hy => hA y hy ?_, fun _ _ _ => rfl⟩
    · show B_X8_spans_20 _ _ _ _ = _
      unfold B_X8_spans_20
      rw [md_g16, Option.bind_some, h16, if_pos (nI_le (by omega) (by omega))]
    · by_cases q : y = 0
      · exact Or.inl q
      · have := (w2 y (by omega) hy).1
        exact Or.inr (by omega)
  | succ r ih =>
    intro x fuel Aj hx hf hA
    obtain ⟨g, rfl⟩ : ∃ g, fuel = g + 1 := ⟨fuel - 1, by omega⟩
    have e0 : b_X8_spans_20 (g + 1) m0 (nI x) (N, md_mk m0 I Ar Aj) = b_X8_spans_34 (b_X8_spans_20 g) 1000 m0 (nI x) (-1) (nI (x + 1)) (N, md_mk m0 I Ar Aj) := by
      show B_X8_spans_20 _ _ _ _ = _
      unfold B_X8_spans_20
      rw [md_g16, Option.bind_some, h16, if_neg (nI_ge (by omega) (by omega)), nI_1]
    rw [e0]
    by_cases k2 : nk (G x) = 2
    · obtain ⟨z1, z2, c, hc⟩ := (w1 x (by omega)).1.2.2.2 k2
      have key := sp_in (N := N) (m0 := m0) (I := I) (Ar := Ar) hh h16 hn (x := x) (by omega) k2 hc (b_X8_spans_20 g) (nz (G x)) 0 1000 (Aj := Aj) (by omega) (by omega) hA (fun t ht => by omega) (fun q => by omega)
      rw [if_pos rfl, hc.1] at key
      obtain ⟨A2, e1, e2, e3⟩ := key
      obtain ⟨A3, f1, f2, f3⟩ := ih (x + 1) g (Aj := A2) (by omega) (by omega) e2
      exact ⟨A3, e1.trans f1, f2, fun t t1 t2 => (f3 t t1 t2).trans (e3 t t1 t2)⟩
    · obtain ⟨A3, f1, f2, f3⟩ := ih (x + 1) g (Aj := Aj) (by omega) (by omega) (fun y y1 y2 => by
        by_cases q : y = 0
        · exact hA y y1 (Or.inl q)
        · have hk := (w2 y (by omega) y1).2.2
          refine hA y y1 (Or.inr ?_)
          rcases y2 with y2 | y2
          · exact absurd y2 q
          · by_cases q3 : np (G y) = x
            · rw [q3] at hk; exact absurd hk k2
            · omega)
      refine ⟨A3, ?_, f2, f3⟩
      rw [← f1]
      show B_X8_spans_34 _ _ _ _ _ _ _ = _
      unfold B_X8_spans_34 b_X8_spans_125
      rw [md_g16, Option.bind_some, h16]
      by_cases q : R.2.2.1.length ≤ x + 1
      · rw [if_pos (nI_le q (by omega)), nI_1]
      · have hk := (w1 x (by omega)).1.1
        rw [if_neg (nI_ge (by omega) (by omega)), md_r17, Option.bind_some, Option.bind_some, md_l12, sw_ix_nI (by omega) (by omega), Option.bind_some, Option.bind_some, (hn x (by omega)).1, if_neg (show ¬ nI (nk (G x)) = 2 from fun e => k2 ((nI_eq (b := 2) (by omega) (by omega)).mp e)), nI_1]
theorem sp_all (h : fw f T G R) (h16 : I 16 = nI R.2.2.1.length) (hn : ∀ y, y < R.2.2.1.length → Ar 12 y = nI (nk (G y)) ∧ Ar 13 y = nI (np (G y)) ∧ Ar 16 y = (nl (G y)).1) (Aj : Nat → Nat → Int64) : ∃ Aj', f_X8_spans m0 (N, md_mk m0 I Ar Aj) = some (N, md_mk m0 I Ar Aj') ∧ (∀ y, y < R.2.2.1.length → spn Aj' G R.2.1 y) ∧ ∀ t, t ≠ 19 → t ≠ 20 → Aj' t = Aj t := by
  obtain ⟨w1, w2, w3, w4, w5, w6, w7, w8, w9, w10, w11⟩ := id h
  obtain ⟨A3, f1, f2, f3⟩ := sp_out (N := N) (m0 := m0) (I := I) (Ar := Ar) h h16 hn R.2.2.1.length 0 1000 (Aj := md_u (md_u Aj 19 0 (-1099511627776)) 20 0 1099511627776) (by omega) (by omega) (fun y y1 y2 => by
    rcases y2 with y2 | y2
    · subst y2
      refine ⟨?_, ?_⟩
      · rw [mj_n (Or.inl (by decide)), mj_e, w5]; rfl
      · rw [mj_e, w6]
        unfold kE
        rw [if_neg (Nat.lt_irrefl _)]
    · omega)
  refine ⟨A3, ?_, f2, fun t t1 t2 => ?_⟩
  · unfold f_X8_spans
    rw [md_r24, Option.bind_some, Option.bind_some, show (0 : Int32) = nI 0 from rfl, md_s19, sw_ix_nI (by omega) (by omega), Option.bind_some, Option.bind_some, md_r25, Option.bind_some, Option.bind_some, md_s20, sw_ix_nI (by omega) (by omega), Option.bind_some, Option.bind_some]
    exact f1
  · rw [f3 t t1 t2, mj_r t2, mj_r t1]
end RSP
