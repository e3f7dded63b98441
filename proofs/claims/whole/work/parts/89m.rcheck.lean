/-! THE REFERENCE CHECKS AND COUNTS -/
theorem nd_cgr {Ar Ar' : Nat → Nat → Int32} (h : ∀ t, t ≠ 21 → t ≠ 22 → Ar' t = Ar t) {x : Nat} {M : ps_N} (q : nd Ar x M) : nd Ar' x M := by
  unfold nd at q ⊢
  rw [h 12 (by decide) (by decide), h 13 (by decide) (by decide), h 14 (by decide) (by decide), h 15 (by decide) (by decide), h 16 (by decide) (by decide), h 17 (by decide) (by decide), h 18 (by decide) (by decide)]
  exact q
section RCK
variable {f : Nat → Int32} {T : Nat} {G : Nat → ps_N} {R : ps_R}
/-- where the keys of node x begin; at the end, where all keys end -/
def kx (G : Nat → ps_N) (R : ps_R) (x : Nat) : Nat := if x < R.2.2.1.length then nb (G x) else R.2.1.length
theorem kx_s (h : fw f T G R) {x : Nat} (hx : x < R.2.2.1.length) : kx G R (x + 1) = kx G R x + ow (G x) := by
  have := (h.1 x hx).2.1
  unfold kx
  rw [if_pos hx]
  exact this.symm
theorem kx_0 (h : fw f T G R) : kx G R 0 = 0 := by
  unfold kx
  rw [if_pos h.2.2.2.2.2.2.2.2.1]
  exact h.2.2.2.2.1
theorem kx_m : kx G R R.2.2.1.length = R.2.1.length := by
  unfold kx
  rw [if_neg (Nat.lt_irrefl _)]
theorem fw_part (h : fw f T G R) {i : Nat} (hi : i < R.2.1.length) : ∃ x, x < R.2.2.1.length ∧ nb (G x) ≤ i ∧ i < nb (G x) + ow (G x) := by
  have key : ∀ x, x ≤ R.2.2.1.length → i < kx G R x → ∃ y, y < R.2.2.1.length ∧ nb (G y) ≤ i ∧ i < nb (G y) + ow (G y) := by
    intro x
    induction x with
    | zero => intro _ q; rw [kx_0 h] at q; omega
    | succ x ih =>
      intro q1 q2
      by_cases q3 : i < kx G R x
      · exact ih (by omega) q3
      · rw [kx_s h (by omega)] at q2
        have e : kx G R x = nb (G x) := by unfold kx; rw [if_pos (by omega)]
        rw [e] at q2 q3
        exact ⟨x, by omega, by omega, q2⟩
  exact key _ (Nat.le_refl _) (by rw [kx_m]; exact hi)
theorem pc_iff (h : fw f T G R) (w a b cn : Int32) : pc_ok T w a b cn R ↔ (R.1 = T ∧ R.2.2.2.2.2.1 = w ∧ kr R.2.1 ∧ ∀ x, 1 ≤ x → x < R.2.2.1.length → (nk (G x) = 0 ↔ pr_q a b cn (kF R.2.1 (nb (G x))) (kE R.2.1 (ne (G x))) = true)) := by
  obtain ⟨w1, w2, w3, w4, w5, w6, w7, w8, w9, w10, w11⟩ := id h
  constructor
  · rintro ⟨h1, h2, h3, h4, h5⟩
    refine ⟨h1, h2, h3, fun x x1 x2 => ⟨fun q => ?_, fun q => ?_⟩⟩
    · obtain ⟨e1, e2⟩ := (w1 x x2).1.2.1 q
      have := h4 (nb (G x)) (by have := (w1 x x2).2.2.2; omega) (by rw [e2]; exact (by decide : (1 : Int32) ≠ 0))
      rw [e1]; exact this
    · by_cases q2 : nk (G x) = 0
      · exact q2
      · have := h5 _ (w4 x (by omega) x2 q2)
        rw [this] at q; cases q
  · rintro ⟨h1, h2, h3, h4⟩
    refine ⟨h1, h2, h3, fun i hi ho => ?_, fun c hc => ?_⟩
    · obtain ⟨x, x1, x2, x3⟩ := fw_part h hi
      have hnf := (w1 x x1).1
      have hk0 : nk (G x) = 0 := by
        by_cases q0 : nk (G x) = 0
        · exact q0
        · by_cases q1 : nk (G x) = 1
          · have e : ow (G x) = nz (G x) := by unfold ow; rw [if_neg q0, if_pos q1]
            have := (hnf.2.2.1 q1).2.2.2.2 (i - nb (G x)) (by omega)
            rw [show nb (G x) + (i - nb (G x)) = i by omega] at this
            rw [this] at ho
            exact absurd rfl ho
          · have e : ow (G x) = 0 := by unfold ow; rw [if_neg q0, if_neg q1]
            omega
      have e : ow (G x) = 1 := by unfold ow; rw [if_pos hk0]
      have ei : i = nb (G x) := by omega
      subst ei
      have hx0 : 1 ≤ x := by
        by_cases q : x = 0
        · subst q; exact absurd hk0 w7
        · omega
      have := (h4 x hx0 x1).mp hk0
      rw [(hnf.2.1 hk0).1] at this
      exact this
    · obtain ⟨x, x1, x2, x3, rfl⟩ := w3 c hc
      have := h4 x x1 x2
      rw [Bool.eq_false_iff]
      exact fun q => x3 (this.mpr q)
variable {N m0 : Nat}
theorem ir_0 {I : Nat → Int32} {Ar : Nat → Nat → Int32} {Aj : Nat → Nat → Int64} {m : Nat} (h16 : I 16 = nI m) (hm : m ≤ 299) (a b cn : Int32) : ∀ (r x fuel : Nat), m ≤ x + r → r < fuel → x ≤ 300 → b_X8_isRight_42 fuel m0 a b cn 0 (nI x) (N, md_mk m0 I Ar Aj) = some (0, (N, md_mk m0 I Ar Aj)) := by
  intro r
  induction r with
  | zero =>
    intro x fuel hx hf h3
    obtain ⟨g, rfl⟩ : ∃ g, fuel = g + 1 := ⟨fuel - 1, by omega⟩
    show B_X8_isRight_42 _ _ _ _ _ _ _ _ = _
    unfold B_X8_isRight_42
    rw [md_g16, Option.bind_some, h16, if_pos (nI_le (by omega) (by omega))]; rfl
  | succ r ih =>
    intro x fuel hx hf h3
    obtain ⟨g, rfl⟩ : ∃ g, fuel = g + 1 := ⟨fuel - 1, by omega⟩
    show B_X8_isRight_42 _ _ _ _ _ _ _ _ = _
    unfold B_X8_isRight_42
    rw [md_g16, Option.bind_some, h16]
    by_cases q : m ≤ x
    · rw [if_pos (nI_le q (by omega))]; rfl
    · rw [if_neg (nI_ge (by omega) (by omega)), if_pos rfl]
      unfold b_X8_isRight_99 b_X8_isRight_100
      rw [nI_1]
      exact ih (x + 1) g (by omega) (by omega) (by omega)
theorem ir_1 {I : Nat → Int32} {Ar : Nat → Nat → Int32} {Aj : Nat → Nat → Int64} {m : Nat} {K : List ps_K} (h16 : I 16 = nI m) (hm : m ≤ 299) (h12 : ∀ y, y < m → Ar 12 y = nI (nk (G y)) ∧ nk (G y) ≤ 2) (hs : ∀ y, y < m → spn Aj G K y) (a b cn : Int32) : ∀ (r x fuel : Nat), m ≤ x + r → r < fuel → x ≤ 300 → (b_X8_isRight_42 fuel m0 a b cn 1 (nI x) (N, md_mk m0 I Ar Aj) = some (1, (N, md_mk m0 I Ar Aj)) ∧ ∀ y, x ≤ y → y < m → (nk (G y) = 0 ↔ pr_q a b cn (kF K (nb (G y))) (kE K (ne (G y))) = true)) ∨ (b_X8_isRight_42 fuel m0 a b cn 1 (nI x) (N, md_mk m0 I Ar Aj) = some (0, (N, md_mk m0 I Ar Aj)) ∧ ¬ ∀ y, x ≤ y → y < m → (nk (G y) = 0 ↔ pr_q a b cn (kF K (nb (G y))) (kE K (ne (G y))) = true)) := by
  intro r
  induction r with
  | zero =>
    intro x fuel hx hf h3
    obtain ⟨g, rfl⟩ : ∃ g, fuel = g + 1 := ⟨fuel - 1, by omega⟩
    left
    refine ⟨?_, fun y y1 y2 => by omega⟩
    show B_X8_isRight_42 _ _ _ _ _ _ _ _ = _
    unfold B_X8_isRight_42
    rw [md_g16, Option.bind_some, h16, if_pos (nI_le (by omega) (by omega))]; rfl
  | succ r ih =>
    intro x fuel hx hf h3
    obtain ⟨g, rfl⟩ : ∃ g, fuel = g + 1 := ⟨fuel - 1, by omega⟩
    have e0 : b_X8_isRight_42 (g + 1) m0 a b cn 1 (nI x) (N, md_mk m0 I Ar Aj) = B_X8_isRight_42 (b_X8_isRight_42 g) m0 a b cn 1 (nI x) (N, md_mk m0 I Ar Aj) := rfl
    rw [e0]
    unfold B_X8_isRight_42
    rw [md_g16, Option.bind_some, h16]
    by_cases q : m ≤ x
    · left
      rw [if_pos (nI_le q (by omega))]
      exact ⟨rfl, fun y y1 y2 => by omega⟩
    · obtain ⟨k1, k2⟩ := h12 x (by omega)
      obtain ⟨s1, s2⟩ := hs x (by omega)
      have e71 : ∀ t0 : Int32, b_X8_isRight_71 (b_X8_isRight_42 g) m0 a b cn (nI x) t0 (N, md_mk m0 I Ar Aj) = if t0 = (if pr_q a b cn (kF K (nb (G x))) (kE K (ne (G x))) = true then 1 else 0) then b_X8_isRight_42 g m0 a b cn 1 (nI (x + 1)) (N, md_mk m0 I Ar Aj) else b_X8_isRight_42 g m0 a b cn 0 (nI (x + 1)) (N, md_mk m0 I Ar Aj) := by
        intro t0
        unfold b_X8_isRight_71 b_X8_isRight_99 b_X8_isRight_100
        rw [md_r24, Option.bind_some, Option.bind_some, md_l19, sw_ix_nI (by omega) (by omega), Option.bind_some, Option.bind_some, md_r25, Option.bind_some, Option.bind_some, md_l20, sw_ix_nI (by omega) (by omega), Option.bind_some, Option.bind_some, s1, s2, pr_isLeft, Option.bind_some, nI_1]
      rw [if_neg (nI_ge (by omega) (by omega)), if_neg (by decide), md_r17, Option.bind_some, Option.bind_some, md_l12, sw_ix_nI (by omega) (by omega), Option.bind_some, Option.bind_some, k1, e71, e71]
      have hgood : (nk (G x) = 0 ↔ pr_q a b cn (kF K (nb (G x))) (kE K (ne (G x))) = true) → ((b_X8_isRight_42 g m0 a b cn 1 (nI (x + 1)) (N, md_mk m0 I Ar Aj) = some (1, (N, md_mk m0 I Ar Aj)) ∧ ∀ y, x ≤ y → y < m → (nk (G y) = 0 ↔ pr_q a b cn (kF K (nb (G y))) (kE K (ne (G y))) = true)) ∨ (b_X8_isRight_42 g m0 a b cn 1 (nI (x + 1)) (N, md_mk m0 I Ar Aj) = some (0, (N, md_mk m0 I Ar Aj)) ∧ ¬ ∀ y, x ≤ y → y < m → (nk (G y) = 0 ↔ pr_q a b cn (kF K (nb (G y))) (kE K (ne (G y))) = true))) := by
        intro hgo
        rcases ih (x + 1) g (by omega) (by omega) (by omega) with ⟨a1, a2⟩ | ⟨a1, a2⟩
        · left
          refine ⟨a1, fun y y1 y2 => ?_⟩
          by_cases q3 : y = x
          · subst q3; exact hgo
          · exact a2 y (by omega) y2
        · right
          exact ⟨a1, fun g => a2 fun y y1 y2 => g y (by omega) y2⟩
      have hbad : ¬ (nk (G x) = 0 ↔ pr_q a b cn (kF K (nb (G x))) (kE K (ne (G x))) = true) → (b_X8_isRight_42 g m0 a b cn 0 (nI (x + 1)) (N, md_mk m0 I Ar Aj) = some (0, (N, md_mk m0 I Ar Aj)) ∧ ¬ ∀ y, x ≤ y → y < m → (nk (G y) = 0 ↔ pr_q a b cn (kF K (nb (G y))) (kE K (ne (G y))) = true)) := fun hb => ⟨ir_0 h16 hm a b cn r (x + 1) g (by omega) (by omega) (by omega), fun g => hb (g x (Nat.le_refl _) (by omega))⟩
      by_cases c1 : nk (G x) = 0
      · rw [if_pos (by rw [c1]; rfl)]
        by_cases c2 : pr_q a b cn (kF K (nb (G x))) (kE K (ne (G x))) = true
        · rw [if_pos (by rw [if_pos c2])]
          exact hgood ⟨fun _ => c2, fun _ => c1⟩
        · rw [if_neg (by rw [if_neg c2]; decide)]
          exact Or.inr (hbad fun h => c2 (h.mp c1))
      · rw [if_neg (show ¬ nI (nk (G x)) = 0 from fun e => c1 ((nI_eq (b := 0) (by omega) (by omega)).mp e))]
        by_cases c2 : pr_q a b cn (kF K (nb (G x))) (kE K (ne (G x))) = true
        · rw [if_neg (by rw [if_pos c2]; decide)]
          exact Or.inr (hbad fun h => c1 (h.mpr c2))
        · rw [if_pos (by rw [if_neg c2])]
          exact hgood ⟨fun h => absurd h c1, fun h => absurd h c2⟩
def rir (I : Nat → Int32) (Ar : Nat → Nat → Int32) (Aj : Nat → Nat → Int64) (I' : Nat → Int32) (Ar' : Nat → Nat → Int32) (Aj' : Nat → Nat → Int64) : Prop := (∀ t, t ≠ 16 → t ≠ 26 → t ≠ 27 → t ≠ 28 → I' t = I t) ∧ (∀ t, t < 12 ∨ 18 < t → Ar' t = Ar t) ∧ ∀ t, t ≠ 19 → t ≠ 20 → Aj' t = Aj t
theorem md_right {F : Nat} (hF : F ≤ 5) (hT : T ≤ 240) {I : Nat → Int32} {Ar : Nat → Nat → Int32} {Aj : Nat → Nat → Int64} (h0 : I 0 = nI F) (h12 : I 12 = nI T) (h8 : Ar 8 = f) (w a b cn : Int32) :
    (∃ R G I' Ar' Aj', ¬ b < a ∧ ps0 f T F = some R ∧ pc_ok T w a b cn R ∧ f_X8_isRight m0 w a b cn (N, md_mk m0 I Ar Aj) = some (1, (N, md_mk m0 I' Ar' Aj')) ∧ fw f T G R ∧ (∀ y, y < R.2.2.1.length → nd Ar' y (G y) ∧ sl Ar' G y) ∧ (∀ y, y < R.2.2.1.length → spn Aj' G R.2.1 y) ∧ I' 16 = nI R.2.2.1.length ∧ Ar' 8 = f ∧ rir I Ar Aj I' Ar' Aj') ∨
    (∃ I' Ar' Aj', f_X8_isRight m0 w a b cn (N, md_mk m0 I Ar Aj) = some (0, (N, md_mk m0 I' Ar' Aj')) ∧ rir I Ar Aj I' Ar' Aj' ∧ (b < a ∨ ∀ R, ps0 f T F = some R → ¬ pc_ok T w a b cn R)) := by
  unfold f_X8_isRight
  by_cases c0 : b < a
  · right
    rw [if_pos c0]
    exact ⟨I, Ar, Aj, rfl, ⟨fun _ _ _ _ _ => rfl, fun _ _ => rfl, fun _ _ _ => rfl⟩, Or.inl c0⟩
  · rw [if_neg c0, md_ob, Option.bind_some]
    rcases rd_read (N := N) (m0 := m0) (Aj := Aj) hF hT h0 h12 h8 with ⟨R, I1, A1, q1, q2, q3, q4, q5, q6, q7⟩ | ⟨⟨I1, A1, q1, q2⟩, q3⟩
    · obtain ⟨G, hG, hw⟩ := fw_of hF hT q1
      obtain ⟨w1, w2, w3, w4, w5, w6, w7, w8, w9, w10, w11⟩ := id hw
      have hnd : ∀ y, y < R.2.2.1.length → nd A1 y (G y) := by
        intro y hy
        have g1 := hp_get hG y hy
        have g2 := hp_get q6 y hy
        rw [Nat.zero_add] at g1 g2
        rw [g1]; exact g2
      obtain ⟨d0, d12, d16, d26, dl, d8⟩ := q5
      obtain ⟨m', hm'⟩ : ∃ m', R.2.2.1.length = m' + 1 := ⟨R.2.2.1.length - 1, by omega⟩
      obtain ⟨A2, s1, s2, s3⟩ := sm_all (N := N) (m0 := m0) (I := I1) (Aj := Aj) (f := f) (T := T) (G := G) (Kf := kk R.2.1) (m := R.2.2.1.length) hT d16 (by omega) (fun x hx => (w1 x hx).1) (fun x x1 x2 => (w2 x x1 x2).1) R.2.2.1.length 1000 (Ar := A1) (Nat.le_refl _) (by omega) d8 hnd (fun y y1 y2 => by omega)
      have hn3 : ∀ y, y < R.2.2.1.length → A2 12 y = nI (nk (G y)) ∧ A2 13 y = nI (np (G y)) ∧ A2 16 y = (nl (G y)).1 := fun y hy => ⟨(s2 y hy).1.1, (s2 y hy).1.2.1, (s2 y hy).2.1⟩
      obtain ⟨J2, t1, t2, t3⟩ := sp_all (N := N) (m0 := m0) (I := I1) (Ar := A2) hw d16 hn3 Aj
      have hsum : f_X8_sums m0 (N, md_mk m0 I1 A1 Aj) = some (N, md_mk m0 I1 A2 Aj) := by
        unfold f_X8_sums
        rw [md_g16, Option.bind_some, d16]; exact s1
      have hfr : rir I Ar Aj I1 A2 J2 := ⟨q7.1, fun t ht => by rw [s3 t (by omega)]; exact q7.2.1 t ht, t3⟩
      have e0 : A2 17 0 = R.2.2.2.2.2.1 := by rw [(s2 0 w9).2.2.1, w8]
      rw [q4, cw_b2, if_neg (by decide), md_ob, Option.bind_some, hsum, Option.bind_some, md_ob, Option.bind_some, t1, Option.bind_some, md_r22, Option.bind_some, Option.bind_some, show sw_al 0 (m0 + 17) 0 (N, md_mk m0 I1 A2 J2) = sw_al 0 (m0 + 17) (nI 0) (N, md_mk m0 I1 A2 J2) from rfl, md_l17, sw_ix_nI (by omega) (by omega), Option.bind_some, Option.bind_some, e0]
      have hno : ∀ (_ : ¬ pc_ok T w a b cn R), ∀ R', ps0 f T F = some R' → ¬ pc_ok T w a b cn R' := by
        intro g R' g1
        rw [q1] at g1; cases g1; exact g
      unfold b_X8_isRight_37
      by_cases c1 : R.2.2.2.2.2.1 = w
      · rw [if_pos c1]
        rcases ir_1 (N := N) (m0 := m0) (I := I1) (Ar := A2) (Aj := J2) (G := G) (K := R.2.1) d16 (by omega) (fun y hy => ⟨(hn3 y hy).1, (w1 y hy).1.1⟩) t2 a b cn R.2.2.1.length 1 1000 (by omega) (by omega) (by omega) with ⟨u1, u2⟩ | ⟨u1, u2⟩
        · left
          exact ⟨R, G, I1, A2, J2, c0, q1, (pc_iff hw w a b cn).mpr ⟨q2, c1, (ri_kr _).mp q3, u2⟩, u1, hw, s2, t2, d16, by rw [s3 8 (by omega)]; exact d8, hfr⟩
        · right
          exact ⟨I1, A2, J2, u1, hfr, Or.inr (hno fun g => u2 ((pc_iff hw w a b cn).mp g).2.2.2)⟩
      · rw [if_neg c1]
        right
        exact ⟨I1, A2, J2, ir_0 d16 (by omega) a b cn R.2.2.1.length 1 1000 (by omega) (by omega) (by omega), hfr, Or.inr (hno fun g => c1 g.2.1)⟩
    · right
      rw [q1, cw_b2, if_pos rfl]
      exact ⟨I1, A1, Aj, rfl, ⟨q2.1, q2.2.1, fun _ _ _ => rfl⟩, Or.inr fun R g1 g2 => q3 R g1 ⟨g2.1, (ri_kr _).mpr g2.2.2.1⟩⟩
/-- rows of one leaf -/
theorem rr_in (hT : T ≤ 240) (hw : fw f T G R) {I : Nat → Int32} {Aj : Nat → Nat → Int64} (a b fl : Int32) {x : Nat} (hx : x < R.2.2.1.length) (k1 : nk (G x) = 1) (rec6 : Nat → Int32 → Int32 → Int32 → Int32 → Int32 → sw_S → Option (Int32 × sw_S)) :
    ∀ (r j fuel : Nat) {Ar : Nat → Nat → Int32}, j + r = nz (G x) → r < fuel → Ar 8 = f → nd Ar x (G x) → (fl ≠ 0 → rh (Ar 21) (Ar 22) (kR a b R.2.1 (nb (G x) + j))) →
    ∃ Ar', b_X8_rows_18 rec6 fuel m0 a b fl (nI (kR a b R.2.1 (nb (G x) + j)).length) (nI x) (nI j) (N, md_mk m0 I Ar Aj) = rec6 m0 a b fl (nI (kR a b R.2.1 (nb (G x) + nz (G x))).length) (nI (x + 1)) (N, md_mk m0 I Ar' Aj) ∧ (fl ≠ 0 → rh (Ar' 21) (Ar' 22) (kR a b R.2.1 (nb (G x) + nz (G x)))) ∧ (∀ t, t ≠ 21 → t ≠ 22 → Ar' t = Ar t) ∧ (fl = 0 → Ar' 21 = Ar 21 ∧ Ar' 22 = Ar 22) := by
  obtain ⟨w1, w2, w3, w4, w5, w6, w7, w8, w9, w10, w11⟩ := id hw
  obtain ⟨g1, g2, g3, g4, g5⟩ := (w1 x hx).1.2.2.1 k1
  have hnek := (w1 x hx).2.2.2
  intro r
  induction r with
  | zero =>
    intro j fuel Ar hj hf h8 hn hr
    obtain ⟨g, rfl⟩ : ∃ g, fuel = g + 1 := ⟨fuel - 1, by omega⟩
    obtain rfl : j = nz (G x) := by omega
    refine ⟨Ar, ?_, hr, fun _ _ _ => rfl, fun _ => ⟨rfl, rfl⟩⟩
    show B_X8_rows_18 _ _ _ _ _ _ _ _ _ _ = _
    unfold B_X8_rows_18 b_X8_rows_42
    rw [md_r17, Option.bind_some, Option.bind_some, md_l12, sw_ix_nI (by omega) (by omega), Option.bind_some, Option.bind_some, hn.1, if_pos (by rw [k1]; rfl), md_r19, Option.bind_some, Option.bind_some, md_l14, sw_ix_nI (by omega) (by omega), Option.bind_some, Option.bind_some, hn.2.2.1 (by omega), if_pos (nI_le (Nat.le_refl _) (by omega)), nI_1]
  | succ r ih =>
    intro j fuel Ar hj hf h8 hn hr
    obtain ⟨g, rfl⟩ : ∃ g, fuel = g + 1 := ⟨fuel - 1, by omega⟩
    have hkj := g5 j (by omega)
    have hlen := kR_len a b R.2.1 (nb (G x) + j)
    have h15 := (hn.2.2.2.1 k1).1
    have e2 : nI (no (G x) + 2) + 2 * nI j = nI (no (G x) + 2 + 2 * j) := by rw [show (2 : Int32) = nI 2 from rfl, pk_mul, nI_add]
    have e0 : b_X8_rows_18 rec6 (g + 1) m0 a b fl (nI (kR a b R.2.1 (nb (G x) + j)).length) (nI x) (nI j) (N, md_mk m0 I Ar Aj) = B_X8_rows_18 rec6 (b_X8_rows_18 rec6 g) m0 a b fl (nI (kR a b R.2.1 (nb (G x) + j)).length) (nI x) (nI j) (N, md_mk m0 I Ar Aj) := rfl
    have hR : kR a b R.2.1 (nb (G x) + (j + 1)) = kR a b R.2.1 (nb (G x) + j) ++ (if kw a b (kk R.2.1 (nb (G x) + j)) then [((kk R.2.1 (nb (G x) + j)).1, (kk R.2.1 (nb (G x) + j)).2.1)] else []) := rfl
    rw [hkj] at hR
    have hkw : kw a b (f (no (G x) + 2 + 2 * j), f (no (G x) + 2 + 2 * j + 1), 0) ↔ (a ≤ f (no (G x) + 2 + 2 * j) ∧ f (no (G x) + 2 + 2 * j) ≤ b) := ⟨fun q => q.2, fun q => ⟨rfl, q⟩⟩
    rw [e0]
    unfold B_X8_rows_18 b_X8_rows_42 b_X8_rows_118 b_X8_rows_115 b_X8_rows_118
    rw [md_r17, Option.bind_some, Option.bind_some, md_l12, sw_ix_nI (by omega) (by omega), Option.bind_some, Option.bind_some, hn.1, if_pos (by rw [k1]; rfl), md_r19, Option.bind_some, Option.bind_some, md_l14, sw_ix_nI (by omega) (by omega), Option.bind_some, Option.bind_some, hn.2.2.1 (by omega), if_neg (nI_ge (by omega) (by omega)), md_r11, Option.bind_some, md_r20, Option.bind_some, Option.bind_some, md_l15, sw_ix_nI (by omega) (by omega), Option.bind_some, Option.bind_some, Option.bind_some, h15, e2, md_l8, sw_ix_nI (by omega) (by omega), Option.bind_some, Option.bind_some, h8, nI_1]
    have hno : ¬ (a ≤ f (no (G x) + 2 + 2 * j) ∧ f (no (G x) + 2 + 2 * j) ≤ b) → ∃ Ar', b_X8_rows_18 rec6 g m0 a b fl (nI (kR a b R.2.1 (nb (G x) + j)).length) (nI x) (nI (j + 1)) (N, md_mk m0 I Ar Aj) = rec6 m0 a b fl (nI (kR a b R.2.1 (nb (G x) + nz (G x))).length) (nI (x + 1)) (N, md_mk m0 I Ar' Aj) ∧ (fl ≠ 0 → rh (Ar' 21) (Ar' 22) (kR a b R.2.1 (nb (G x) + nz (G x)))) ∧ (∀ t, t ≠ 21 → t ≠ 22 → Ar' t = Ar t) ∧ (fl = 0 → Ar' 21 = Ar 21 ∧ Ar' 22 = Ar 22) := by
      intro q
      rw [if_neg (fun e => q (hkw.mp e)), List.append_nil] at hR
      have := ih (j + 1) g (Ar := Ar) (by omega) (by omega) h8 hn (by rw [hR]; exact hr)
      rw [hR] at this
      exact this
    by_cases c1 : f (no (G x) + 2 + 2 * j) < a
    · rw [if_pos c1]
      exact hno fun q => Int32.not_le.mpr c1 q.1
    · rw [if_neg c1]
      by_cases c2 : b < f (no (G x) + 2 + 2 * j)
      · rw [if_pos c2]
        exact hno fun q => Int32.not_le.mpr c2 q.2
      · rw [if_neg c2]
        rw [if_pos (hkw.mpr ⟨Int32.not_lt.mp c1, Int32.not_lt.mp c2⟩)] at hR
        have hl1 : (kR a b R.2.1 (nb (G x) + (j + 1))).length = (kR a b R.2.1 (nb (G x) + j)).length + 1 := by rw [hR]; simp
        by_cases c3 : fl = 0
        · rw [if_pos c3]
          have := ih (j + 1) g (Ar := Ar) (by omega) (by omega) h8 hn (fun q => absurd c3 q)
          rw [hl1, ← nI_1] at this
          exact this
        · rw [if_neg c3, md_r30, Option.bind_some, Option.bind_some, md_s21, sw_ix_nI (by omega) (by omega), Option.bind_some, Option.bind_some, md_r31, Option.bind_some, md_r11, Option.bind_some, md_r20, Option.bind_some, Option.bind_some, md_l15, sw_ix_nI (by omega) (by omega), Option.bind_some, Option.bind_some, Option.bind_some, mu_n (Or.inl (by decide)), h15, e2, nI_1, md_l8, sw_ix_nI (by omega) (by omega), Option.bind_some, Option.bind_some, Option.bind_some, mu_r (by decide), h8, md_s22, sw_ix_nI (by omega) (by omega), Option.bind_some, Option.bind_some]
          have key := ih (j + 1) g (Ar := md_u (md_u Ar 21 (kR a b R.2.1 (nb (G x) + j)).length (f (no (G x) + 2 + 2 * j))) 22 (kR a b R.2.1 (nb (G x) + j)).length (f (no (G x) + 2 + 2 * j + 1))) (by omega) (by omega) (by rw [mu_r (by decide), mu_r (by decide)]; exact h8) (by
            exact nd_cgr (fun t t1 t2 => by rw [mu_r t2, mu_r t1]) hn) (fun q => by
            have := (hr q).app (f (no (G x) + 2 + 2 * j)) (f (no (G x) + 2 + 2 * j + 1))
            rw [hR]
            have z1 : md_u (md_u Ar 21 (kR a b R.2.1 (nb (G x) + j)).length (f (no (G x) + 2 + 2 * j))) 22 (kR a b R.2.1 (nb (G x) + j)).length (f (no (G x) + 2 + 2 * j + 1)) 21 = upd (Ar 21) (kR a b R.2.1 (nb (G x) + j)).length (f (no (G x) + 2 + 2 * j)) := by
              rw [mu_r (by decide)]
              funext i
              simp [md_u, upd]
            have z2 : md_u (md_u Ar 21 (kR a b R.2.1 (nb (G x) + j)).length (f (no (G x) + 2 + 2 * j))) 22 (kR a b R.2.1 (nb (G x) + j)).length (f (no (G x) + 2 + 2 * j + 1)) 22 = upd (Ar 22) (kR a b R.2.1 (nb (G x) + j)).length (f (no (G x) + 2 + 2 * j + 1)) := by
              funext i
              simp [md_u, upd]
            rw [z1, z2]
            exact this)
          rw [hl1, ← nI_1] at key
          obtain ⟨Ar', k1, k2, k3, -⟩ := key
          refine ⟨Ar', k1, k2, fun t t1 t2 => ?_, fun q => absurd q c3⟩
          rw [k3 t t1 t2, mu_r t2, mu_r t1]
theorem rr_out (hT : T ≤ 240) (hw : fw f T G R) {I : Nat → Int32} {Aj : Nat → Nat → Int64} (h16 : I 16 = nI R.2.2.1.length) (a b fl : Int32) : ∀ (r x fuel : Nat) {Ar : Nat → Nat → Int32}, x + r = R.2.2.1.length → r < fuel → Ar 8 = f → (∀ y, y < R.2.2.1.length → nd Ar y (G y)) → (fl ≠ 0 → rh (Ar 21) (Ar 22) (kR a b R.2.1 (kx G R x))) →
    ∃ Ar', b_X8_rows_6 fuel m0 a b fl (nI (kR a b R.2.1 (kx G R x)).length) (nI x) (N, md_mk m0 I Ar Aj) = some (nI (kR a b R.2.1 R.2.1.length).length, (N, md_mk m0 I Ar' Aj)) ∧ (fl ≠ 0 → rh (Ar' 21) (Ar' 22) (kR a b R.2.1 R.2.1.length)) ∧ (∀ t, t ≠ 21 → t ≠ 22 → Ar' t = Ar t) ∧ (fl = 0 → Ar' 21 = Ar 21 ∧ Ar' 22 = Ar 22) := by
  obtain ⟨w1, w2, w3, w4, w5, w6, w7, w8, w9, w10, w11⟩ := id hw
  intro r
  induction r with
  | zero =>
    intro x fuel Ar hx hf h8 hn hr
    obtain ⟨g, rfl⟩ : ∃ g, fuel = g + 1 := ⟨fuel - 1, by omega⟩
    obtain rfl : x = R.2.2.1.length := by omega
    rw [kx_m] at hr ⊢
    refine ⟨Ar, ?_, hr, fun _ _ _ => rfl, fun _ => ⟨rfl, rfl⟩⟩
    show B_X8_rows_6 _ _ _ _ _ _ _ _ = _
    unfold B_X8_rows_6
    rw [md_g16, Option.bind_some, h16, if_pos (nI_le (Nat.le_refl _) (by omega))]
  | succ r ih =>
    intro x fuel Ar hx hf h8 hn hr
    obtain ⟨g, rfl⟩ : ∃ g, fuel = g + 1 := ⟨fuel - 1, by omega⟩
    have hs := kx_s hw (x := x) (by omega)
    have ex : kx G R x = nb (G x) := by unfold kx; rw [if_pos (by omega)]
    have e0 : ∀ v, b_X8_rows_6 (g + 1) m0 a b fl v (nI x) (N, md_mk m0 I Ar Aj) = b_X8_rows_18 (b_X8_rows_6 g) 1000 m0 a b fl v (nI x) 0 (N, md_mk m0 I Ar Aj) := by
      intro v
      show B_X8_rows_6 _ _ _ _ _ _ _ _ = _
      unfold B_X8_rows_6
      rw [md_g16, Option.bind_some, h16, if_neg (nI_ge (by omega) (by omega))]
    rw [e0]
    by_cases k1 : nk (G x) = 1
    · have eo : ow (G x) = nz (G x) := by unfold ow; rw [if_neg (by omega), if_pos k1]
      rw [ex] at hr ⊢
      obtain ⟨A2, q1, q2, q3, q4⟩ := rr_in (N := N) (m0 := m0) (I := I) (Aj := Aj) hT hw a b fl (x := x) (by omega) k1 (b_X8_rows_6 g) (nz (G x)) 0 1000 (Ar := Ar) (by omega) (by have := ((w1 x (by omega)).1.2.2.1 k1).2.2.1; omega) h8 (hn x (by omega)) hr
      rw [eo, ex] at hs
      rw [← hs] at q1 q2
      obtain ⟨A3, p1, p2, p3, p4⟩ := ih (x + 1) g (Ar := A2) (by omega) (by omega) (by rw [q3 8 (by decide) (by decide)]; exact h8) (fun y hy => nd_cgr q3 (hn y hy)) q2
      exact ⟨A3, q1.trans p1, p2, fun t t1 t2 => (p3 t t1 t2).trans (q3 t t1 t2), fun q => ⟨(p4 q).1.trans (q4 q).1, (p4 q).2.trans (q4 q).2⟩⟩
    · have hs' : nk (G x) = 0 ∨ nk (G x) = 2 := by have := (w1 x (by omega)).1.1; omega
      have hR : kR a b R.2.1 (kx G R (x + 1)) = kR a b R.2.1 (kx G R x) := by
        rcases hs' with k0 | k2
        · have eo : ow (G x) = 1 := by unfold ow; rw [if_pos k0]
          rw [hs, eo, ex]
          show kR a b R.2.1 (nb (G x)) ++ (if kw a b (kk R.2.1 (nb (G x))) then _ else []) = _
          rw [((w1 x (by omega)).1.2.1 k0).2, if_neg (fun q => by have := q.1; cases this), List.append_nil]
        · have eo : ow (G x) = 0 := by unfold ow; rw [if_neg (by omega), if_neg (by omega)]
          rw [hs, eo]; rfl
      obtain ⟨A3, p1, p2, p3⟩ := ih (x + 1) g (Ar := Ar) (by omega) (by omega) h8 hn (by rw [hR]; exact hr)
      rw [hR] at p1
      refine ⟨A3, ?_, p2, p3⟩
      rw [← p1]
      show B_X8_rows_18 _ _ _ _ _ _ _ _ _ _ = _
      unfold B_X8_rows_18 b_X8_rows_42
      rw [md_r17, Option.bind_some, Option.bind_some, md_l12, sw_ix_nI (by omega) (by omega), Option.bind_some, Option.bind_some, (hn x (by omega)).1, if_neg (show ¬ nI (nk (G x)) = 1 from fun e => k1 ((nI_eq (b := 1) (by omega) (by omega)).mp e)), if_pos (by decide), nI_1]
end RCK
