/-! THE CLASS'S CHECKER: what it asks of what it read -/
def kk (K : List ps_K) (i : Nat) : ps_K := K.getD i (0, 0, 0)
theorem kk_get {K : List ps_K} {i : Nat} (h : i < K.length) : kk K i = K[i] := by simp [kk, h]
/-- keys rise -/
def kr (K : List ps_K) : Prop := ∀ j, 1 ≤ j → j < K.length → (kk K (j - 1)).1 < (kk K j).1
def kF (K : List ps_K) (i : Nat) : Int64 := if i = 0 then -1099511627776 else (kk K i).1.toInt64
def kE (K : List ps_K) (i : Nat) : Int64 := if i < K.length then (kk K i).1.toInt64 else 1099511627776
theorem kE_ok (K : List ps_K) (i : Nat) : pr_ok (kE K i) := by
  unfold kE
  split
  · exact pr_ok_i _
  · exact ⟨by decide, by decide⟩
def kO (a b cn : Int32) (K : List ps_K) : Prop := ∀ i, i < K.length → (kk K i).2.2 ≠ 0 → pr_q a b cn (kF K i) (kE K (i + 1)) = true
def kS (a b cn : Int32) (K : List ps_K) (C : List (Nat × Nat)) : Prop := ∀ c, c ∈ C → pr_q a b cn (kF K c.1) (kE K c.2) = false
abbrev kw (a b : Int32) (k : ps_K) : Prop := k.2.2 = 0 ∧ a ≤ k.1 ∧ k.1 ≤ b
abbrev kh (a b : Int32) (s e : Int64) : Prop := a.toInt64 ≤ s ∧ e ≤ b.toInt64 + 1
def kc (a b : Int32) (K : List ps_K) (j : Nat) : Int32 := if kw a b (kk K j) then 1 else if (kk K j).2.2 ≠ 0 ∧ kh a b (kF K j) (kE K (j + 1)) then (kk K j).2.1 else 0
def kR (a b : Int32) (K : List ps_K) : Nat → List (Int32 × Int32)
  | 0 => []
  | i + 1 => kR a b K i ++ (if kw a b (kk K i) then [((kk K i).1, (kk K i).2.1)] else [])
theorem kR_len (a b : Int32) (K : List ps_K) : ∀ i, (kR a b K i).length ≤ i := by
  intro i
  induction i with
  | zero => exact Nat.le_refl _
  | succ i ih =>
    simp only [kR, List.length_append]
    split
    · simp; exact ih
    · simp; omega
section CKF
variable {x po F : Nat} {f : Nat → Int32} {T : Nat} {σ : sw_S} {p : Nat} {K : List ps_K} {C : List (Nat × Nat)} {b : Int32 × Int32 × Int32}
theorem ck.k (h : ck x po F f T σ p K C b) (hK : K.length ≤ 120) {i : Nat} (hi : i < K.length) : sw_al 0 (x + 1) (nI i) σ = some (kk K i).1 ∧ sw_al 0 (x + 2) (nI i) σ = some (kk K i).2.1 ∧ sw_al 2 (x + 3) (nI i) σ = some (kk K i).2.2 := by
  obtain ⟨fk, fn, fl, fb, fe, h1, h2, h3, ht⟩ := h
  rw [kk_get hi]
  obtain ⟨q1, q2, q3⟩ := h2 i hi
  exact ⟨by rw [h1.l1 (by omega), q1], by rw [h1.l2 (by omega), q2], by rw [h1.l3 (by omega), q3]⟩
theorem ck.rs (h : ck x po F f T σ p K C b) : sw_gR 0 x 3 σ = some (some (x + 2)) ∧ sw_gR 0 x 4 σ = some (some (x + 3)) ∧ sw_gR 0 x 5 σ = some (some (x + 4)) ∧ sw_gR 0 x 6 σ = some (some (x + 5)) := by
  obtain ⟨fk, fn, fl, fb, fe, h1, h2, h3, ht⟩ := h
  exact ⟨h1.r3, h1.r4, h1.r5, h1.r6⟩
theorem ck.c (h : ck x po F f T σ p K C b) (hC : C.length ≤ 120) {i : Nat} (hi : i < C.length) : sw_al 0 (x + 4) (nI i) σ = some (nI C[i].1) ∧ sw_al 0 (x + 5) (nI i) σ = some (nI C[i].2) := by
  obtain ⟨fk, fn, fl, fb, fe, h1, h2, h3, ht⟩ := h
  obtain ⟨q1, q2⟩ := h3 i hi
  exact ⟨by rw [h1.l4 (by omega), q1], by rw [h1.l5 (by omega), q2]⟩
theorem ck.sf (h : ck x po F f T σ p K C b) (hK : K.length ≤ 120) {i : Nat} (hi : i < K.length) : f_X0_spanFrom x (nI i) σ = some (kF K i) := by
  unfold f_X0_spanFrom kF
  by_cases q : i = 0
  · subst q
    rw [if_pos (by decide), if_pos rfl]; rfl
  · rw [if_neg (nI_nle (by omega) (by omega)), if_neg q, h.gs.2.2.2.2.2.2.2.1, Option.bind_some, Option.bind_some, (h.k hK hi).1, Option.bind_some]; rfl
theorem ck.se (h : ck x po F f T σ p K C b) (hK : K.length ≤ 120) {i : Nat} (hi : i ≤ K.length) : f_X0_spanEnd x (nI i) σ = some (kE K i) := by
  unfold f_X0_spanEnd kE
  rw [h.gs.2.2.1, Option.bind_some]
  by_cases q : i < K.length
  · rw [if_neg (nI_ge (by omega) (by omega)), if_pos q, h.gs.2.2.2.2.2.2.2.1, Option.bind_some, Option.bind_some, (h.k hK q).1, Option.bind_some]; rfl
  · rw [if_pos (nI_le (by omega) (by omega)), if_neg q]; rfl
theorem ck_rise (h : ck x po F f T σ p K C b) (hK : K.length ≤ 120) : ∀ (r i fuel : Nat), 1 ≤ i → K.length ≤ i + r → r < fuel → i ≤ 200 → (b_X0_keysRise_2 fuel x (nI i) σ = some 1 ∧ ∀ j, i ≤ j → j < K.length → (kk K (j - 1)).1 < (kk K j).1) ∨ (b_X0_keysRise_2 fuel x (nI i) σ = some 0 ∧ ¬ ∀ j, i ≤ j → j < K.length → (kk K (j - 1)).1 < (kk K j).1) := by
  intro r
  induction r with
  | zero =>
    intro i fuel h1 h2 hf h3
    obtain ⟨fuel, rfl⟩ : ∃ g, fuel = g + 1 := ⟨fuel - 1, by omega⟩
    left
    refine ⟨?_, fun j a1 a2 => by omega⟩
    show B_X0_keysRise_2 _ _ _ _ = _
    unfold B_X0_keysRise_2
    rw [h.gs.2.2.1, Option.bind_some, if_pos (nI_le (by omega) (by omega))]
  | succ r ih =>
    intro i fuel h1 h2 hf h3
    obtain ⟨fuel, rfl⟩ : ∃ g, fuel = g + 1 := ⟨fuel - 1, by omega⟩
    have e0 : b_X0_keysRise_2 (fuel + 1) x (nI i) σ = B_X0_keysRise_2 (b_X0_keysRise_2 fuel) x (nI i) σ := rfl
    have hpr : nI i - 1 = nI (i - 1) := by
      conv => lhs; rw [show i = (i - 1) + 1 by omega]
      exact nI_pred _
    rw [e0]
    unfold B_X0_keysRise_2
    rw [h.gs.2.2.1, Option.bind_some]
    by_cases q : K.length ≤ i
    · left
      rw [if_pos (nI_le q (by omega))]
      exact ⟨rfl, fun j a1 a2 => by omega⟩
    · rw [if_neg (nI_ge (by omega) (by omega)), h.gs.2.2.2.2.2.2.2.1, Option.bind_some, Option.bind_some, (h.k hK (by omega)).1, Option.bind_some, Option.bind_some, Option.bind_some, hpr, (h.k hK (by omega)).1, Option.bind_some]
      by_cases q2 : (kk K (i - 1)).1 < (kk K i).1
      · rw [if_pos q2, nI_1]
        rcases ih (i + 1) fuel (by omega) (by omega) (by omega) (by omega) with ⟨a1, a2⟩ | ⟨a1, a2⟩
        · left
          refine ⟨a1, fun j b1 b2 => ?_⟩
          by_cases q3 : j = i
          · subst q3; exact q2
          · exact a2 j (by omega) b2
        · right
          exact ⟨a1, fun g => a2 fun j b1 b2 => g j (by omega) b2⟩
      · right
        rw [if_neg q2]
        exact ⟨rfl, fun g => q2 (g i (Nat.le_refl _) (by omega))⟩
theorem ck_outs (h : ck x po F f T σ p K C b) (hK : K.length ≤ 120) {qu : Nat} {a0 b0 cn : Int32} (hq : σ.2 qu = some (.inr (4, [.int a0, .int b0, .int cn]))) : ∀ (r i fuel : Nat), K.length ≤ i + r → r < fuel → i ≤ 200 → (b_X0_leftOutFits_2 fuel x qu (nI i) σ = some 1 ∧ ∀ j, i ≤ j → j < K.length → (kk K j).2.2 ≠ 0 → pr_q a0 b0 cn (kF K j) (kE K (j + 1)) = true) ∨ (b_X0_leftOutFits_2 fuel x qu (nI i) σ = some 0 ∧ ¬ ∀ j, i ≤ j → j < K.length → (kk K j).2.2 ≠ 0 → pr_q a0 b0 cn (kF K j) (kE K (j + 1)) = true) := by
  have hob : sw_ob 4 qu σ = some [.int a0, .int b0, .int cn] := by simp [sw_ob, hq]
  obtain ⟨L0, q0⟩ := h.ob
  intro r
  induction r with
  | zero =>
    intro i fuel h2 hf h3
    obtain ⟨fuel, rfl⟩ : ∃ g, fuel = g + 1 := ⟨fuel - 1, by omega⟩
    left
    refine ⟨?_, fun j a1 a2 => by omega⟩
    show B_X0_leftOutFits_2 _ _ _ _ _ = _
    unfold B_X0_leftOutFits_2
    rw [h.gs.2.2.1, Option.bind_some, if_pos (nI_le (by omega) (by omega))]
  | succ r ih =>
    intro i fuel h2 hf h3
    obtain ⟨fuel, rfl⟩ : ∃ g, fuel = g + 1 := ⟨fuel - 1, by omega⟩
    have e0 : b_X0_leftOutFits_2 (fuel + 1) x qu (nI i) σ = B_X0_leftOutFits_2 (b_X0_leftOutFits_2 fuel) x qu (nI i) σ := rfl
    rw [e0]
    unfold B_X0_leftOutFits_2
    rw [h.gs.2.2.1, Option.bind_some]
    by_cases q : K.length ≤ i
    · left
      rw [if_pos (nI_le q (by omega))]
      exact ⟨rfl, fun j a1 a2 => by omega⟩
    · rw [if_neg (nI_ge (by omega) (by omega)), h.rs.2.1, Option.bind_some, Option.bind_some, (h.k hK (by omega)).2.2, Option.bind_some]
      unfold b_X0_leftOutFits_40
      rw [nI_1]
      by_cases q2 : (kk K i).2.2 = 0
      · rw [if_pos q2]
        rcases ih (i + 1) fuel (by omega) (by omega) (by omega) with ⟨a1, a2⟩ | ⟨a1, a2⟩
        · left
          refine ⟨a1, fun j b1 b2 b3 => ?_⟩
          by_cases q3 : j = i
          · subst q3; exact absurd q2 b3
          · exact a2 j (by omega) b2 b3
        · right
          exact ⟨a1, fun g => a2 fun j b1 b2 => g j (by omega) b2⟩
      · rw [if_neg q2, q0, Option.bind_some, h.sf hK (by omega), Option.bind_some, Option.bind_some, h.se hK (by omega), Option.bind_some, hob, Option.bind_some, pr_leaves hq _ (kE_ok K _), Option.bind_some]
        by_cases q4 : pr_q a0 b0 cn (kF K i) (kE K (i + 1)) = true
        · rw [if_pos q4, if_neg (by decide)]
          rcases ih (i + 1) fuel (by omega) (by omega) (by omega) with ⟨a1, a2⟩ | ⟨a1, a2⟩
          · left
            refine ⟨a1, fun j b1 b2 b3 => ?_⟩
            by_cases q3 : j = i
            · subst q3; exact q4
            · exact a2 j (by omega) b2 b3
          · right
            exact ⟨a1, fun g => a2 fun j b1 b2 => g j (by omega) b2⟩
        · rw [if_neg q4, if_pos rfl]
          right
          exact ⟨rfl, fun g => q4 (g i (Nat.le_refl _) (by omega) q2)⟩
theorem ck_shown (h : ck x po F f T σ p K C b) (hK : K.length ≤ 120) (hC : C.length ≤ 120) (hb : ∀ c, c ∈ C → c.1 < K.length ∧ c.2 ≤ K.length) {qu : Nat} {a0 b0 cn : Int32} (hq : σ.2 qu = some (.inr (4, [.int a0, .int b0, .int cn]))) : ∀ (r i fuel : Nat), C.length ≤ i + r → r < fuel → i ≤ 200 → (b_X0_shownFits_2 fuel x qu (nI i) σ = some 1 ∧ ∀ j, i ≤ j → (hj : j < C.length) → pr_q a0 b0 cn (kF K C[j].1) (kE K C[j].2) = false) ∨ (b_X0_shownFits_2 fuel x qu (nI i) σ = some 0 ∧ ¬ ∀ j, i ≤ j → (hj : j < C.length) → pr_q a0 b0 cn (kF K C[j].1) (kE K C[j].2) = false) := by
  have hob : sw_ob 4 qu σ = some [.int a0, .int b0, .int cn] := by simp [sw_ob, hq]
  obtain ⟨L0, q0⟩ := h.ob
  intro r
  induction r with
  | zero =>
    intro i fuel h2 hf h3
    obtain ⟨fuel, rfl⟩ : ∃ g, fuel = g + 1 := ⟨fuel - 1, by omega⟩
    left
    refine ⟨?_, fun j a1 a2 => by omega⟩
    show B_X0_shownFits_2 _ _ _ _ _ = _
    unfold B_X0_shownFits_2
    rw [h.gs.2.2.2.2.2.2.2.2.2, Option.bind_some, if_pos (nI_le (by omega) (by omega))]
  | succ r ih =>
    intro i fuel h2 hf h3
    obtain ⟨fuel, rfl⟩ : ∃ g, fuel = g + 1 := ⟨fuel - 1, by omega⟩
    have e0 : b_X0_shownFits_2 (fuel + 1) x qu (nI i) σ = B_X0_shownFits_2 (b_X0_shownFits_2 fuel) x qu (nI i) σ := rfl
    rw [e0]
    unfold B_X0_shownFits_2
    rw [h.gs.2.2.2.2.2.2.2.2.2, Option.bind_some]
    by_cases q : C.length ≤ i
    · left
      rw [if_pos (nI_le q (by omega))]
      exact ⟨rfl, fun j a1 a2 => by omega⟩
    · have hi : i < C.length := by omega
      obtain ⟨m1, m2⟩ := hb C[i] (List.getElem_mem hi)
      rw [if_neg (nI_ge (by omega) (by omega)), h.rs.2.2.1, Option.bind_some, Option.bind_some, (h.c hC hi).1, Option.bind_some, q0, Option.bind_some, h.sf hK m1, Option.bind_some, h.rs.2.2.2, Option.bind_some, Option.bind_some, (h.c hC hi).2, Option.bind_some, Option.bind_some, h.se hK m2, Option.bind_some, hob, Option.bind_some, pr_leaves hq _ (kE_ok K _), Option.bind_some, nI_1]
      by_cases q4 : pr_q a0 b0 cn (kF K C[i].1) (kE K C[i].2) = true
      · rw [if_pos q4, if_neg (by decide)]
        right
        exact ⟨rfl, fun g => by rw [g i (Nat.le_refl _) hi] at q4; cases q4⟩
      · rw [if_neg q4, if_pos rfl]
        rcases ih (i + 1) fuel (by omega) (by omega) (by omega) with ⟨a1, a2⟩ | ⟨a1, a2⟩
        · left
          refine ⟨a1, fun j b1 b2 => ?_⟩
          by_cases q3 : j = i
          · subst q3; exact Bool.eq_false_iff.mpr q4
          · exact a2 j (by omega) b2
        · right
          exact ⟨a1, fun g => a2 fun j b1 b2 => g j (by omega) b2⟩
/-- rows and sums -/
theorem kh_holds {qu : Nat} {a0 b0 cn : Int32} (hq : σ.2 qu = some (.inr (4, [.int a0, .int b0, .int cn]))) (s : Int64) {e : Int64} (he : pr_ok e) : f_X4_holds qu s e σ = some (if kh a0 b0 s e then 1 else 0) := by
  have ho : sw_ob 4 qu σ = some [.int a0, .int b0, .int cn] := by simp [sw_ob, hq]
  have g0 : sw_gI 4 qu 0 σ = some a0 := by unfold sw_gI; rw [ho]; rfl
  have g1 : sw_gI 4 qu 1 σ = some b0 := by unfold sw_gI; rw [ho]; rfl
  unfold f_X4_holds
  rw [g0, g1]
  simp only [lg_cmp_gt, lg_cmp_lt, b_X4_holds_26, b_X4_holds_27, Option.bind_some, pr_e1 he]
  unfold kh
  by_cases h4 : s < a0.toInt64
  · have h4' : ¬ a0.toInt64 ≤ s := Int64.not_le.mpr h4
    simp [h4, h4', sw_z]
  · have h4' : a0.toInt64 ≤ s := Int64.not_lt.mp h4
    by_cases h5 : e ≤ b0.toInt64 + 1
    · simp [h4, h4', h5, sw_z]
    · simp [h4, h4', h5, sw_z]
theorem ck.row (h : ck x po F f T σ p K C b) (hK : K.length ≤ 120) {qu : Nat} {a0 b0 cn : Int32} (hq : σ.2 qu = some (.inr (4, [.int a0, .int b0, .int cn]))) {i : Nat} (hi : i < K.length) : f_X0_isRow x (nI i) qu σ = some (if kw a0 b0 (kk K i) then 1 else 0) := by
  have ho : sw_ob 4 qu σ = some [.int a0, .int b0, .int cn] := by simp [sw_ob, hq]
  have g0 : sw_gI 4 qu 0 σ = some a0 := by unfold sw_gI; rw [ho]; rfl
  have g1 : sw_gI 4 qu 1 σ = some b0 := by unfold sw_gI; rw [ho]; rfl
  unfold f_X0_isRow f_X4_covers
  rw [h.rs.2.1, Option.bind_some, Option.bind_some, (h.k hK hi).2.2, Option.bind_some, h.gs.2.2.2.2.2.2.2.1, Option.bind_some, Option.bind_some, (h.k hK hi).1, Option.bind_some, ho, Option.bind_some, g0, Option.bind_some, g1]
  unfold kw
  by_cases q1 : (kk K i).2.2 = 0
  · by_cases q2 : (kk K i).1 < a0
    · have q2' : ¬ a0 ≤ (kk K i).1 := Int32.not_le.mpr q2
      simp [q1, q2, q2', b_X4_covers_20, b_X4_covers_21, b_X0_isRow_26, b_X0_isRow_27, sw_z]
    · have q2' : a0 ≤ (kk K i).1 := Int32.not_lt.mp q2
      by_cases q3 : b0 < (kk K i).1
      · have q3' : ¬ (kk K i).1 ≤ b0 := Int32.not_le.mpr q3
        simp [q1, q2, q2', q3, q3', b_X4_covers_20, b_X4_covers_21, b_X0_isRow_26, b_X0_isRow_27, sw_z]
      · have q3' : (kk K i).1 ≤ b0 := Int32.not_lt.mp q3
        simp [q1, q2, q2', q3, q3', b_X4_covers_20, b_X4_covers_21, b_X0_isRow_26, b_X0_isRow_27, sw_z]
  · simp [q1, b_X0_isRow_26, b_X0_isRow_27, sw_z]
theorem ck_total (h : ck x po F f T σ p K C b) (hK : K.length ≤ 120) {qu : Nat} {a0 b0 cn : Int32} (hq : σ.2 qu = some (.inr (4, [.int a0, .int b0, .int cn]))) : ∀ (r i fuel : Nat), i + r = K.length → r < fuel → b_X0_total_4 fuel x qu (pv_it (fun j s => s + kc a0 b0 K j) i 0) (nI i) σ = some (pv_it (fun j s => s + kc a0 b0 K j) K.length 0) := by
  have hob : sw_ob 4 qu σ = some [.int a0, .int b0, .int cn] := by simp [sw_ob, hq]
  obtain ⟨L0, q0⟩ := h.ob
  intro r
  induction r with
  | zero =>
    intro i fuel h2 hf
    obtain ⟨fuel, rfl⟩ : ∃ g, fuel = g + 1 := ⟨fuel - 1, by omega⟩
    have : i = K.length := by omega
    subst this
    show B_X0_total_4 _ _ _ _ _ _ = _
    unfold B_X0_total_4
    rw [h.gs.2.2.1, Option.bind_some, if_pos (nI_le (by omega) (by omega))]
  | succ r ih =>
    intro i fuel h2 hf
    obtain ⟨fuel, rfl⟩ : ∃ g, fuel = g + 1 := ⟨fuel - 1, by omega⟩
    have e0 : b_X0_total_4 (fuel + 1) x qu (pv_it (fun j s => s + kc a0 b0 K j) i 0) (nI i) σ = B_X0_total_4 (b_X0_total_4 fuel) x qu (pv_it (fun j s => s + kc a0 b0 K j) i 0) (nI i) σ := rfl
    rw [e0]
    have ih1 := ih (i + 1) fuel (by omega) (by omega)
    have es : pv_it (fun j s => s + kc a0 b0 K j) (i + 1) 0 = pv_it (fun j s => s + kc a0 b0 K j) i 0 + kc a0 b0 K i := rfl
    rw [es] at ih1
    generalize pv_it (fun j s => s + kc a0 b0 K j) i 0 = acc at ih1 ⊢
    unfold B_X0_total_4 b_X0_total_64
    rw [h.gs.2.2.1, Option.bind_some, if_neg (nI_ge (by omega) (by omega)), q0, Option.bind_some, h.row hK hq (by omega), Option.bind_some, nI_1]
    unfold kc at ih1
    by_cases q1 : kw a0 b0 (kk K i)
    · rw [if_pos q1] at ih1
      rw [if_pos q1, if_neg (by decide)]
      exact ih1
    · rw [if_neg q1] at ih1
      rw [if_neg q1, if_pos rfl, h.rs.2.1, Option.bind_some, Option.bind_some, (h.k hK (by omega)).2.2, Option.bind_some]
      by_cases q2 : (kk K i).2.2 = 0
      · rw [if_neg (fun g => g.1 q2), Int32.add_zero] at ih1
        rw [if_pos q2]
        exact ih1
      · rw [if_neg q2, Option.bind_some, h.sf hK (by omega), Option.bind_some, Option.bind_some, h.se hK (by omega), Option.bind_some, hob, Option.bind_some, kh_holds hq _ (kE_ok K _), Option.bind_some]
        by_cases q3 : kh a0 b0 (kF K i) (kE K (i + 1))
        · rw [if_pos ⟨q2, q3⟩] at ih1
          rw [if_pos q3, if_neg (by decide), h.rs.1, Option.bind_some, Option.bind_some, (h.k hK (by omega)).2.1, Option.bind_some]
          exact ih1
        · rw [if_neg (fun g => q3 g.2), Int32.add_zero] at ih1
          rw [if_neg q3, if_pos rfl]
          exact ih1
end CKF
