/-! THE REFERENCE'S SUMS -/
theorem pv_it_add {α : Type} (φ : Nat → α → α) (a : Nat) (h : α) : ∀ b, pv_it φ (a + b) h = pv_it (fun j => φ (a + j)) b (pv_it φ a h) := by
  intro b
  induction b with
  | zero => rfl
  | succ b ih =>
    show φ (a + b) (pv_it φ (a + b) h) = φ (a + b) (pv_it (fun j => φ (a + j)) b (pv_it φ a h))
    rw [ih]
theorem pv_it_id {α : Type} (φ : Nat → α → α) (h : α) : ∀ b, (∀ j, j < b → ∀ x, φ j x = x) → pv_it φ b h = h := by
  intro b
  induction b with
  | zero => intro _; rfl
  | succ b ih =>
    intro hq
    show φ b (pv_it φ b h) = h
    rw [ih fun j hj => hq j (by omega), hq b (by omega)]
/-- over all nodes behind x, those whose parent is x -/
def cf {α : Type} (G : Nat → ps_N) (φ : Nat → α → α) (x : Nat) (h : α) (l : Nat) : α := pv_it (fun l h => if np (G (x + 1 + l)) = x then φ (x + 1 + l) h else h) l h
theorem ch_cf {α : Type} {G : Nat → ps_N} {x m : Nat} {c : Nat → Nat} (hc : ch G x m c) (φ : Nat → α → α) (h : α) : cf G φ x h (m - (x + 1)) = pv_it (fun i => φ (c i)) (nz (G x)) h := by
  obtain ⟨c0, cz, cs, ce, -, -⟩ := hc
  have hmono : ∀ i, i ≤ nz (G x) → x + 1 ≤ c i := by
    intro i
    induction i with
    | zero => intro _; omega
    | succ i ih => intro hi; have := (cs i (by omega)).1; have := ih (by omega); omega
  have hcl : ∀ i, i ≤ nz (G x) → cf G φ x h (c i - (x + 1)) = pv_it (fun i => φ (c i)) i h := by
    intro i
    induction i with
    | zero => intro _; rw [c0, Nat.sub_self]; rfl
    | succ i ih =>
      intro hi
      obtain ⟨s1, s2, s3⟩ := cs i (by omega)
      have hm := hmono i (by omega)
      have e : c (i + 1) - (x + 1) = (c i - (x + 1)) + (1 + (c (i + 1) - c i - 1)) := by omega
      have ih1 := ih (by omega)
      unfold cf at ih1 ⊢
      rw [e, pv_it_add, ih1, pv_it_add]
      show _ = φ (c i) (pv_it (fun i => φ (c i)) i h)
      rw [pv_it_id]
      · show (if np (G (x + 1 + (c i - (x + 1) + 0))) = x then φ (x + 1 + (c i - (x + 1) + 0)) _ else _) = _
        rw [show x + 1 + (c i - (x + 1) + 0) = c i by omega, if_pos s2]
        rfl
      · intro j hj y
        show (if np (G (x + 1 + (c i - (x + 1) + (1 + j)))) = x then _ else y) = y
        rw [if_neg]
        rw [show x + 1 + (c i - (x + 1) + (1 + j)) = c i + 1 + j by omega]
        exact s3 _ (by omega) (by omega)
  have hm := hmono _ (Nat.le_refl _)
  have e : m - (x + 1) = (c (nz (G x)) - (x + 1)) + (m - c (nz (G x))) := by omega
  have h1 := hcl _ (Nat.le_refl _)
  unfold cf at h1 ⊢
  rw [e, pv_it_add, h1, pv_it_id]
  intro j hj y
  show (if np (G (x + 1 + (c (nz (G x)) - (x + 1) + j))) = x then _ else y) = y
  rw [if_neg]
  rw [show x + 1 + (c (nz (G x)) - (x + 1) + j) = c (nz (G x)) + j by omega]
  exact ce _ (by omega) (by omega)
/-- the labels lie in the rows -/
def sl (Ar : Nat → Nat → Int32) (G : Nat → ps_N) (y : Nat) : Prop := Ar 16 y = (nl (G y)).1 ∧ Ar 17 y = (nl (G y)).2.1 ∧ Ar 18 y = (nl (G y)).2.2
section RSM
variable {N m0 : Nat} {I : Nat → Int32} {Aj : Nat → Nat → Int64} {f : Nat → Int32} {T F : Nat} {G : Nat → ps_N} {Kf : Nat → ps_K} {m : Nat}
theorem sm_inner {x : Nat} (h16 : I 16 = nI m) (hm : m ≤ 299) (hx : x < m) (init : Int32) : ∀ (r l fuel : Nat) {Ar : Nat → Nat → Int32}, x + 1 + l + r = m → r < fuel → (∀ y, x < y → y < m → Ar 13 y = nI (np (G y)) ∧ np (G y) < 300 ∧ sl Ar G y) → Ar 18 x = cf G (fun j s => s + (nl (G j)).2.2) x 0 l →
    ∃ Ar', b_X8_sumInner_40 fuel m0 (nI x) (cf G (fun j h => pv_lm h (nl (G j))) x init l) (nI (x + 1 + l)) (N, md_mk m0 I Ar Aj) = some (N, md_mk m0 I Ar' Aj) ∧ Ar' 17 x = cf G (fun j h => pv_lm h (nl (G j))) x init (m - (x + 1)) ∧ Ar' 18 x = cf G (fun j s => s + (nl (G j)).2.2) x 0 (m - (x + 1)) ∧ ∀ t y, (t, y) ≠ (17, x) → (t, y) ≠ (18, x) → Ar' t y = Ar t y := by
  intro r
  induction r with
  | zero =>
    intro l fuel Ar hl hf hy h18
    obtain ⟨g, rfl⟩ : ∃ g, fuel = g + 1 := ⟨fuel - 1, by omega⟩
    have el : m - (x + 1) = l := by omega
    rw [el]
    refine ⟨md_u Ar 17 x (cf G (fun j h => pv_lm h (nl (G j))) x init l), ?_, mu_e, by rw [mu_n (Or.inl (by decide))]; exact h18, fun t y q1 _ => mu_n ?_⟩
    · show B_X8_sumInner_40 _ _ _ _ _ _ = _
      unfold B_X8_sumInner_40
      rw [md_g16, Option.bind_some, h16, if_pos (nI_le (by omega) (by omega)), md_r22, Option.bind_some, Option.bind_some, md_s17, sw_ix_nI (by omega) (by omega), Option.bind_some, Option.bind_some]
    · by_cases q : t = 17
      · right; intro q2; subst q; subst q2; exact q1 rfl
      · left; exact q
  | succ r ih =>
    intro l fuel Ar hl hf hy h18
    obtain ⟨g, rfl⟩ : ∃ g, fuel = g + 1 := ⟨fuel - 1, by omega⟩
    obtain ⟨y1, y2, y3, y4, y5⟩ := hy (x + 1 + l) (by omega) (by omega)
    have e0 : b_X8_sumInner_40 (g + 1) m0 (nI x) (cf G (fun j h => pv_lm h (nl (G j))) x init l) (nI (x + 1 + l)) (N, md_mk m0 I Ar Aj) = B_X8_sumInner_40 (b_X8_sumInner_40 g) m0 (nI x) (cf G (fun j h => pv_lm h (nl (G j))) x init l) (nI (x + 1 + l)) (N, md_mk m0 I Ar Aj) := rfl
    have ec : ∀ {α : Type} (φ : Nat → α → α) (h : α), cf G φ x h (l + 1) = if np (G (x + 1 + l)) = x then φ (x + 1 + l) (cf G φ x h l) else cf G φ x h l := fun φ h => rfl
    rw [e0]
    unfold B_X8_sumInner_40 b_X8_sumInner_106
    rw [md_g16, Option.bind_some, h16, if_neg (nI_ge (by omega) (by omega)), md_r18, Option.bind_some, Option.bind_some, md_l13, sw_ix_nI (by omega) (by omega), Option.bind_some, Option.bind_some, y1]
    by_cases q : np (G (x + 1 + l)) = x
    · have e1 := ec (fun j h => pv_lm h (nl (G j))) init
      have e2 := ec (fun j s => s + (nl (G j)).2.2) (0 : Int32)
      rw [if_pos q] at e1 e2
      rw [if_pos (by rw [q]), md_r21, Option.bind_some, Option.bind_some, md_l16, sw_ix_nI (by omega) (by omega), Option.bind_some, Option.bind_some, pv_add, Option.bind_some, md_r22, Option.bind_some, Option.bind_some, md_l17, sw_ix_nI (by omega) (by omega), Option.bind_some, Option.bind_some, pv_add, Option.bind_some, md_r23, Option.bind_some, Option.bind_some, md_l18, sw_ix_nI (by omega) (by omega), Option.bind_some, Option.bind_some, pv_add, Option.bind_some, Option.bind_some, Option.bind_some, Option.bind_some, md_l18, sw_ix_nI (by omega) (by omega), Option.bind_some, Option.bind_some, Option.bind_some, Option.bind_some, md_l18, sw_ix_nI (by omega) (by omega), Option.bind_some, Option.bind_some, Option.bind_some, md_s18, sw_ix_nI (by omega) (by omega), Option.bind_some, Option.bind_some, nI_1, y3, y4, y5, h18]
      have e3 : pv_mix (pv_mix (pv_mix (cf G (fun j h => pv_lm h (nl (G j))) x init l) (nl (G (x + 1 + l))).1) (nl (G (x + 1 + l))).2.1) (nl (G (x + 1 + l))).2.2 = cf G (fun j h => pv_lm h (nl (G j))) x init (l + 1) := by rw [e1]; rfl
      have e4 : cf G (fun j s => s + (nl (G j)).2.2) x 0 l + (nl (G (x + 1 + l))).2.2 = cf G (fun j s => s + (nl (G j)).2.2) x 0 (l + 1) := by rw [e2]
      rw [e3, e4]
      obtain ⟨Ar', k1, k2, k3, k4⟩ := ih (l + 1) g (Ar := md_u Ar 18 x (cf G (fun j s => s + (nl (G j)).2.2) x 0 (l + 1))) (by omega) (by omega) (fun y q1 q2 => by
        obtain ⟨z1, z2, z3, z4, z5⟩ := hy y q1 q2
        refine ⟨by rw [mu_n (Or.inl (by decide))]; exact z1, z2, by rw [mu_n (Or.inl (by decide))]; exact z3, by rw [mu_n (Or.inl (by decide))]; exact z4, by rw [mu_n (Or.inr (by omega))]; exact z5⟩) mu_e
      refine ⟨Ar', k1, k2, k3, fun t y q1 q2 => ?_⟩
      rw [k4 t y q1 q2, mu_n]
      by_cases q3 : t = 18
      · right; intro q4; subst q3; subst q4; exact q2 rfl
      · left; exact q3
    · have e1 := ec (fun j h => pv_lm h (nl (G j))) init
      have e2 := ec (fun j s => s + (nl (G j)).2.2) (0 : Int32)
      rw [if_neg q] at e1 e2
      rw [if_neg (fun e => q ((nI_eq (by omega) (by omega)).mp e)), nI_1]
      have := ih (l + 1) g (Ar := Ar) (by omega) (by omega) hy (by rw [e2]; exact h18)
      rw [e1] at this
      exact this
/-- a leaf's tokens -/
theorem sm_leaf {x z p : Nat} {Ar : Nat → Nat → Int32} (hx : x < 300) (h8 : Ar 8 = f) (h14 : Ar 14 x = nI z) (h15 : Ar 15 x = nI p) (hz : z ≤ 5) (hp : p ≤ 240) (rec7 : Nat → Int32 → sw_S → Option sw_S) (init : Int32) : ∀ (r j fuel : Nat), j + r = z → 2 * r < fuel → b_X8_sums_38 rec7 fuel m0 (nI x) (pv_it (fun j h => pv_mix (pv_mix h (f (p + 2 * j))) (f (p + 2 * j + 1))) j init) (nI (2 * j)) (N, md_mk m0 I Ar Aj) = b_X8_sums_81 rec7 m0 (nI x) (N, md_mk m0 I (md_u Ar 17 x (pv_it (fun j h => pv_mix (pv_mix h (f (p + 2 * j))) (f (p + 2 * j + 1))) z init)) Aj) := by
  have hstep : ∀ (v2 : Int32) (q fuel : Nat), q < 2 * z → b_X8_sums_38 rec7 (fuel + 1) m0 (nI x) v2 (nI q) (N, md_mk m0 I Ar Aj) = b_X8_sums_38 rec7 fuel m0 (nI x) (pv_mix v2 (f (p + q))) (nI (q + 1)) (N, md_mk m0 I Ar Aj) := by
    intro v2 q fuel hq
    show B_X8_sums_38 _ _ _ _ _ _ _ = _
    unfold B_X8_sums_38
    rw [md_r19, Option.bind_some, Option.bind_some, md_l14, sw_ix_nI hx (by omega), Option.bind_some, Option.bind_some, h14, show (2 : Int32) = nI 2 from rfl, pk_mul, if_neg (nI_ge hq (by omega)), md_r11, Option.bind_some, md_r20, Option.bind_some, Option.bind_some, md_l15, sw_ix_nI hx (by omega), Option.bind_some, Option.bind_some, Option.bind_some, h15, nI_add, md_l8, sw_ix_nI (by omega) (by omega), Option.bind_some, Option.bind_some, pv_add, Option.bind_some, h8, nI_1]
  intro r
  induction r with
  | zero =>
    intro j fuel hj hf
    obtain ⟨g, rfl⟩ : ∃ g, fuel = g + 1 := ⟨fuel - 1, by omega⟩
    obtain rfl : j = z := by omega
    show B_X8_sums_38 _ _ _ _ _ _ _ = _
    unfold B_X8_sums_38
    rw [md_r19, Option.bind_some, Option.bind_some, md_l14, sw_ix_nI hx (by omega), Option.bind_some, Option.bind_some, h14, show (2 : Int32) = nI 2 from rfl, pk_mul, if_pos (nI_le (Nat.le_refl _) (by omega)), md_r22, Option.bind_some, Option.bind_some, md_s17, sw_ix_nI hx (by omega), Option.bind_some, Option.bind_some]
  | succ r ih =>
    intro j fuel hj hf
    obtain ⟨g, rfl⟩ : ∃ g, fuel = g + 1 + 1 := ⟨fuel - 2, by omega⟩
    rw [hstep _ _ _ (by omega), hstep _ _ _ (by omega)]
    exact ih (j + 1) g (by omega) (by omega)
/-- all sums, from the last node to the first -/
theorem sm_all (hT : T ≤ 240) (h16 : I 16 = nI m) (hm : m ≤ 299) (hfr : ∀ x, x < m → nf f T G Kf x m) (hpa : ∀ x, 0 < x → x < m → np (G x) < x) : ∀ (x fuel : Nat) {Ar : Nat → Nat → Int32}, x ≤ m → x < fuel → Ar 8 = f → (∀ y, y < m → nd Ar y (G y)) → (∀ y, x ≤ y → y < m → sl Ar G y) →
    ∃ Ar', b_X8_sums_7 fuel m0 (nI x - 1) (N, md_mk m0 I Ar Aj) = some (N, md_mk m0 I Ar' Aj) ∧ (∀ y, y < m → nd Ar' y (G y) ∧ sl Ar' G y) ∧ ∀ t, t < 16 ∨ 18 < t → Ar' t = Ar t := by
  intro x
  induction x with
  | zero =>
    intro fuel Ar hx hf h8 hn hs
    obtain ⟨g, rfl⟩ : ∃ g, fuel = g + 1 := ⟨fuel - 1, by omega⟩
    refine ⟨Ar, ?_, fun y hy => ⟨hn y hy, hs y (Nat.zero_le _) hy⟩, fun _ _ => rfl⟩
    show B_X8_sums_7 _ _ _ _ = _
    unfold B_X8_sums_7
    rw [if_pos (by decide)]
  | succ x ih =>
    intro fuel Ar hx hf h8 hn hs
    obtain ⟨g, rfl⟩ : ∃ g, fuel = g + 1 := ⟨fuel - 1, by omega⟩
    rw [nI_pred]
    have e0 : b_X8_sums_7 (g + 1) m0 (nI x) (N, md_mk m0 I Ar Aj) = B_X8_sums_7 (b_X8_sums_7 g) m0 (nI x) (N, md_mk m0 I Ar Aj) := rfl
    rw [e0]
    obtain ⟨n1, n2, n3, n4, n5⟩ := hn x (by omega)
    obtain ⟨f1, f2, f3, f4⟩ := hfr x (by omega)
    have epred : nI x + (-1) = nI x - 1 := by rw [Int32.sub_eq_add_neg]
    have hgo : ∀ {A2 : Nat → Nat → Int32}, (∀ t y, y ≠ x → A2 t y = Ar t y) → (∀ t, t < 16 ∨ 18 < t → A2 t = Ar t) → sl A2 G x → (nk (G x) = 1 → A2 16 x = (nl (G x)).1 ∧ A2 18 x = (nl (G x)).2.2) → ∃ Ar', b_X8_sums_7 g m0 (nI x - 1) (N, md_mk m0 I A2 Aj) = some (N, md_mk m0 I Ar' Aj) ∧ (∀ y, y < m → nd Ar' y (G y) ∧ sl Ar' G y) ∧ ∀ t, t < 16 ∨ 18 < t → Ar' t = Ar t := by
      intro A2 a1 a2 a3 a4
      obtain ⟨Ar', k1, k2, k3⟩ := ih g (Ar := A2) (by omega) (by omega) (by rw [a2 8 (by omega)]; exact h8) (fun y hy => by
        by_cases q : y = x
        · subst q
          refine ⟨by rw [a2 12 (by omega)]; exact n1, by rw [a2 13 (by omega)]; exact n2, fun w => by rw [a2 14 (by omega)]; exact n3 w, fun w => ⟨by rw [a2 15 (by omega)]; exact (n4 w).1, (a4 w).1, (a4 w).2⟩, fun w => ⟨a3.1, a3.2.1, a3.2.2⟩⟩
        · exact nd_cg (fun t => a1 t y q) (hn y hy)) (fun y y1 y2 => by
        by_cases q : y = x
        · subst q; exact a3
        · have := hs y (by omega) y2
          unfold sl
          rw [a1 16 y q, a1 17 y q, a1 18 y q]
          exact this)
      exact ⟨Ar', k1, k2, fun t ht => (k3 t ht).trans (a2 t ht)⟩
    unfold B_X8_sums_7
    rw [if_neg (Int32.not_lt.mpr (nI_pos' (by omega))), md_r17, Option.bind_some, Option.bind_some, md_l12, sw_ix_nI (by omega) (by omega), Option.bind_some, Option.bind_some, n1]
    by_cases k1 : nk (G x) = 1
    · obtain ⟨g1, g2, g3, g4, -⟩ := f3 k1
      obtain ⟨g5, g6, g7⟩ := n4 k1
      have h14 := n3 (by omega)
      rw [if_pos (by rw [k1]; rfl), pv_add, Option.bind_some, md_r19, Option.bind_some, Option.bind_some, md_l14, sw_ix_nI (by omega) (by omega), Option.bind_some, Option.bind_some, h14, pv_add, Option.bind_some]
      have hl := sm_leaf (N := N) (m0 := m0) (I := I) (Aj := Aj) (f := f) (Ar := Ar) (by omega : x < 300) h8 h14 g5 g3 (by omega) (b_X8_sums_7 g) (pv_mix (pv_mix 1 1) (nI (nz (G x)))) (nz (G x)) 0 1000 (by omega) (by omega)
      have hl2 : b_X8_sums_38 (b_X8_sums_7 g) 1000 m0 (nI x) (pv_mix (pv_mix 1 1) (nI (nz (G x)))) 0 (N, md_mk m0 I Ar Aj) = b_X8_sums_81 (b_X8_sums_7 g) m0 (nI x) (N, md_mk m0 I (md_u Ar 17 x (nl (G x)).2.1) Aj) := by
        rw [g2]; exact hl
      rw [hl2]
      unfold b_X8_sums_81 b_X8_sums_96
      rw [md_r17, Option.bind_some, Option.bind_some, md_l12, sw_ix_nI (by omega) (by omega), Option.bind_some, Option.bind_some, mu_n (Or.inl (by decide)), n1, if_neg (by rw [k1]; decide), epred]
      refine hgo (fun t y q => mu_n (Or.inr q)) (fun t ht => mu_r (by omega)) ⟨by rw [mu_n (Or.inl (by decide))]; exact g6, mu_e, by rw [mu_n (Or.inl (by decide))]; exact g7⟩ (fun _ => ⟨by rw [mu_n (Or.inl (by decide))]; exact g6, by rw [mu_n (Or.inl (by decide))]; exact g7⟩)
    · have e1 : ¬ nI (nk (G x)) = 1 := fun e => k1 ((nI_eq (b := 1) (by omega) (by omega)).mp e)
      rw [if_neg e1]
      unfold b_X8_sums_81 b_X8_sums_96
      rw [md_r17, Option.bind_some, Option.bind_some, md_l12, sw_ix_nI (by omega) (by omega), Option.bind_some, Option.bind_some, n1]
      by_cases k2 : nk (G x) = 2
      · obtain ⟨z1, z2, c, hc⟩ := f4 k2
        have h14 := n3 (by omega)
        have hf1 := ch_cf hc (fun j h => pv_lm h (nl (G j))) (pv_mix (pv_mix 1 2) (nI (nz (G x))))
        have hf2 := ch_cf hc (fun j s => s + (nl (G j)).2.2) (0 : Int32)
        obtain ⟨c0, cz, cs, -, -, cl⟩ := hc
        have hx1 : x + 1 < m := by
          have := (cs 0 (by omega)).1
          have h2 : c 1 ≤ c (nz (G x)) := by
            have : ∀ i, 1 ≤ i → i ≤ nz (G x) → c 1 ≤ c i := by
              intro i
              induction i with
              | zero => intro q; omega
              | succ i ihi =>
                intro _ q2
                by_cases q3 : i = 0
                · subst q3; exact Nat.le_refl _
                · have := ihi (by omega) (by omega); have := (cs i (by omega)).1; omega
            exact this _ z1 (Nat.le_refl _)
          rw [c0] at this
          have : c (0 + 1) = c 1 := rfl
          omega
        rw [if_pos (by rw [k2]; rfl), md_ob, Option.bind_some]
        unfold f_X8_sumInner
        rw [pv_add, Option.bind_some, md_r19, Option.bind_some, Option.bind_some, md_l14, sw_ix_nI (by omega) (by omega), Option.bind_some, Option.bind_some, h14, pv_add, Option.bind_some, md_r23, Option.bind_some, Option.bind_some, md_s18, sw_ix_nI (by omega) (by omega), Option.bind_some, Option.bind_some, md_r21, Option.bind_some, Option.bind_some, Option.bind_some, nI_1, md_l16, sw_ix_nI (by omega) (by omega), Option.bind_some, Option.bind_some, Option.bind_some, mu_n (Or.inl (by decide)), md_s16, sw_ix_nI (by omega) (by omega), Option.bind_some, Option.bind_some, (hs (x + 1) (Nat.le_refl _) hx1).1]
        obtain ⟨A3, t1, t2, t3, t4⟩ := sm_inner (N := N) (m0 := m0) (I := I) (Aj := Aj) (G := G) (m := m) (x := x) h16 hm (by omega) (pv_mix (pv_mix 1 2) (nI (nz (G x)))) (m - (x + 1)) 0 1000 (Ar := md_u (md_u Ar 18 x 0) 16 x (nl (G (x + 1))).1) (by omega) (by omega) (fun y q1 q2 => by
          obtain ⟨s1, s2, s3⟩ := hs y (by omega) q2
          have hpy := hpa y (by omega) q2
          refine ⟨by rw [mu_n (Or.inl (by decide)), mu_n (Or.inl (by decide))]; exact (hn y q2).2.1, by omega, by rw [mu_n (Or.inr (by omega)), mu_n (Or.inl (by decide))]; exact s1, by rw [mu_n (Or.inl (by decide)), mu_n (Or.inl (by decide))]; exact s2, by rw [mu_n (Or.inl (by decide)), mu_n (Or.inr (by omega))]; exact s3⟩) (by rw [mu_n (Or.inl (by decide)), mu_e]; rfl)
        have t1' : b_X8_sumInner_40 1000 m0 (nI x) (pv_mix (pv_mix 1 2) (nI (nz (G x)))) (nI (x + 1)) (N, md_mk m0 I (md_u (md_u Ar 18 x 0) 16 x (nl (G (x + 1))).1) Aj) = some (N, md_mk m0 I A3 Aj) := t1
        rw [t1', Option.bind_some, epred]
        refine hgo (A2 := A3) (fun t y q => ?_) (fun t ht => ?_) ⟨?_, ?_, ?_⟩ (fun w => absurd w k1)
        · rw [t4 t y (fun e => q (Prod.mk.inj e).2) (fun e => q (Prod.mk.inj e).2), mu_n (Or.inr q), mu_n (Or.inr q)]
        · funext y
          rw [t4 t y (fun e => by have := (Prod.mk.inj e).1; omega) (fun e => by have := (Prod.mk.inj e).1; omega), mu_n (Or.inl (by omega)), mu_n (Or.inl (by omega))]
        · rw [t4 16 x (fun e => by have := (Prod.mk.inj e).1; omega) (fun e => by have := (Prod.mk.inj e).1; omega), mu_e, cl]
        · rw [t2, hf1, cl]
        · rw [t3, hf2, cl]
      · have e2 : ¬ nI (nk (G x)) = 2 := fun e => k2 ((nI_eq (b := 2) (by omega) (by omega)).mp e)
        have k0 : nk (G x) = 0 := by omega
        rw [if_neg e2, epred]
        exact hgo (fun _ _ _ => rfl) (fun _ _ => rfl) (n5 k0) (fun w => absurd w k1)
end RSM
