/-! THE REFERENCE'S READS, and what is done with tokens -/
/-- how many of the first c keys lie from a to b -/
def pv_cnt (f : Nat → Int32) (a b : Int32) : Nat → Nat
  | 0 => 0
  | k + 1 => pv_cnt f a b k + (if f k < a then 0 else if b < f k then 0 else 1)
section M7
variable {n m0 : Nat} {I : Nat → Int32} {Ar : Nat → Nat → Int32} {Aj : Nat → Nat → Int64}
theorem md_get {F : Nat} {S : pv_Sh} {c : Nat} (h : md_tr I Ar F S c) (key : Int32) : f_X8_get m0 key (n, md_mk m0 I Ar Aj) = some (match pv_fd (Ar 1) c key with | some p => Ar 2 p | none => 0) := by
  obtain ⟨t0, t1, t2, t3, t4, t5, t6, t7⟩ := h
  unfold f_X8_get
  rw [md_ob, Option.bind_some, md_find t2 (by omega), Option.bind_some]
  obtain ⟨-, w2, -, -⟩ := pv_upF_le (Ar 1) key c 0
  cases hf : pv_fd (Ar 1) c key with
  | none => rw [if_neg (by decide)]; rfl
  | some p =>
    have hp : p < c := by
      unfold pv_fd at hf
      split at hf
      · cases hf; omega
      · cases hf
    rw [if_pos (show 0 ≤ pv_oi (some p) from nI_pos' (by omega)), md_r4, Option.bind_some, Option.bind_some, show pv_oi (some p) = nI p from rfl, md_l2, sw_ix_nI (by omega) (by omega), Option.bind_some, Option.bind_some]
    rfl
theorem md_size {F : Nat} {S : pv_Sh} {c : Nat} (h : md_tr I Ar F S c) : f_X8_size m0 (n, md_mk m0 I Ar Aj) = some (nI c) := by
  unfold f_X8_size
  rw [md_g2, Option.bind_some, h.2.2.1]
theorem md_height {F : Nat} {S : pv_Sh} {c : Nat} (h : md_tr I Ar F S c) : f_X8_height m0 (n, md_mk m0 I Ar Aj) = some (nI S.1) := by
  unfold f_X8_height
  rw [md_g5, Option.bind_some, h.2.2.2.1.1]
theorem md_root {F : Nat} {S : pv_Sh} {c : Nat} (h : md_tr I Ar F S c) : f_X8_root m0 (n, md_mk m0 I Ar Aj) = some (pv_dg S.2.2 (Ar 1) (Ar 2) (S.1 - 1) 0) := by
  obtain ⟨t0, t1, t2, t3, t4, t5, t6, t7⟩ := h
  have h7 := t3.2.2.1
  have h00 := t3.2.1
  unfold f_X8_root
  obtain ⟨hh, hhe⟩ : ∃ hh, S.1 = hh + 1 := ⟨S.1 - 1, by omega⟩
  have e64 : (64 * nI hh : Int32) = nI (64 * hh + 0) := by show nI 64 * _ = _; rw [pk_mul]; rfl
  rw [md_r8, Option.bind_some, md_g5, Option.bind_some, Option.bind_some, t3.1, hhe, nI_pred, e64, md_l5, sw_ix_nI (by omega) (by omega), Option.bind_some, Option.bind_some]
  have := (t7 hh (by omega) 0 ((t3.2.2.2 hh (by omega)).2.1)).2.2
  rw [this]
  rfl
theorem md_digest (h x y z : Int32) (σ : sw_S) : f_X8_digest m0 h x y z σ = some (pv_mix (pv_mix (pv_mix h x) y) z) := rfl
theorem pv_cnt_le (f : Nat → Int32) (a b : Int32) (k : Nat) : pv_cnt f a b k ≤ k := by
  induction k with
  | zero => exact Nat.le_refl _
  | succ k ih => simp only [pv_cnt]; split <;> (try split) <;> omega
theorem md_within_loop {c : Nat} (hc : I 2 = nI c) (hc2 : c ≤ 61) (a b : Int32) : ∀ (q k fuel : Nat), k + q = c → q < fuel → b_X8_within_5 fuel m0 a b (nI (pv_cnt (Ar 1) a b k)) (nI k) (n, md_mk m0 I Ar Aj) = some (nI (pv_cnt (Ar 1) a b c)) := by
  intro q
  induction q with
  | zero =>
    intro k fuel hk hf
    obtain ⟨f, rfl⟩ : ∃ f, fuel = f + 1 := ⟨fuel - 1, by omega⟩
    show B_X8_within_5 (b_X8_within_5 f) m0 a b _ (nI k) _ = _
    unfold B_X8_within_5
    obtain rfl : k = c := by omega
    rw [md_g2, Option.bind_some, hc, if_pos (nI_le (by omega) (by omega))]
  | succ q ih =>
    intro k fuel hk hf
    obtain ⟨f, rfl⟩ : ∃ f, fuel = f + 1 := ⟨fuel - 1, by omega⟩
    show B_X8_within_5 (b_X8_within_5 f) m0 a b _ (nI k) _ = _
    unfold B_X8_within_5
    have hi := ih (k + 1) f (by omega) (by omega)
    simp only [pv_cnt] at hi
    rw [md_g2, Option.bind_some, hc, if_neg (nI_ge (by omega) (by omega)), md_r3, Option.bind_some, Option.bind_some, md_l1, sw_ix_nI (by omega) (by omega), Option.bind_some, Option.bind_some]
    by_cases h1 : Ar 1 k < a
    · rw [if_pos h1]
      rw [if_pos h1, Nat.add_zero] at hi
      unfold b_X8_within_42 b_X8_within_43
      rw [nI_1]; exact hi
    · rw [if_neg h1, Option.bind_some, Option.bind_some, md_l1, sw_ix_nI (by omega) (by omega), Option.bind_some, Option.bind_some]
      rw [if_neg h1] at hi
      by_cases h2 : b < Ar 1 k
      · rw [if_pos h2]
        rw [if_pos h2, Nat.add_zero] at hi
        unfold b_X8_within_42 b_X8_within_43
        rw [nI_1]; exact hi
      · rw [if_neg h2]
        rw [if_neg h2] at hi
        unfold b_X8_within_43
        rw [nI_1, nI_1]; exact hi
theorem md_within {F : Nat} {S : pv_Sh} {c : Nat} (h : md_tr I Ar F S c) (a b : Int32) : f_X8_within m0 a b (n, md_mk m0 I Ar Aj) = some (nI (pv_cnt (Ar 1) a b c)) := by
  have := md_within_loop (n := n) (m0 := m0) (Ar := Ar) (Aj := Aj) h.2.2.1 (by have := h.2.2.2.2.2.1; omega) a b c 0 1000 (by omega) (by have := h.2.2.2.2.2.1; omega)
  exact this
/-- the tokens: T of them -/
def md_tk (I : Nat → Int32) (T : Nat) : Prop := I 12 = nI T ∧ T ≤ 600
theorem md_token {T : Nat} (h : md_tk I T) (i : Int32) : f_X8_token m0 i (n, md_mk m0 I Ar Aj) = some (match sw_ix i T with | some j => Ar 8 j | none => 0) := by
  obtain ⟨h1, h2⟩ := h
  unfold f_X8_token
  rcases pk_ix i (n := T) (by omega) with q | q | ⟨j, hj, rfl⟩
  · rw [if_pos q]
    have : sw_ix i T = none := by unfold sw_ix; rw [if_neg (fun z => absurd q (Int32.not_lt.mpr z.1))]
    rw [this]; rfl
  · by_cases q0 : i < 0
    · rw [if_pos q0]
      have : sw_ix i T = none := by unfold sw_ix; rw [if_neg (fun z => absurd q0 (Int32.not_lt.mpr z.1))]
      rw [this]; rfl
    · rw [if_neg q0, md_g12, Option.bind_some, h1, if_pos q]
      have : sw_ix i T = none := by
        obtain ⟨j, hj, rfl⟩ := nI_of q0
        unfold sw_ix
        rw [if_neg]
        rintro ⟨-, z⟩
        rw [nI_clamp hj] at z
        exact absurd q (nI_ge z (by omega))
      rw [this]; rfl
  · rw [if_neg (nI_pos (by omega)), md_g12, Option.bind_some, h1, if_neg (nI_ge hj (by omega)), md_r11, Option.bind_some, Option.bind_some, md_l8, sw_ix_nI (by omega) (by omega), Option.bind_some, Option.bind_some, sw_ix_nI hj (by omega)]
    rfl
theorem md_alter {T : Nat} (h : md_tk I T) (i v : Int32) : f_X8_alter m0 i v (n, md_mk m0 I Ar Aj) = some (match sw_ix i T with | some j => (1, (n, md_mk m0 I (md_u Ar 8 j v) Aj)) | none => (0, (n, md_mk m0 I Ar Aj))) := by
  obtain ⟨h1, h2⟩ := h
  unfold f_X8_alter
  rcases pk_ix i (n := T) (by omega) with q | q | ⟨j, hj, rfl⟩
  · rw [if_pos q]
    have : sw_ix i T = none := by unfold sw_ix; rw [if_neg (fun z => absurd q (Int32.not_lt.mpr z.1))]
    rw [this]; rfl
  · by_cases q0 : i < 0
    · rw [if_pos q0]
      have : sw_ix i T = none := by unfold sw_ix; rw [if_neg (fun z => absurd q0 (Int32.not_lt.mpr z.1))]
      rw [this]; rfl
    · rw [if_neg q0, md_g12, Option.bind_some, h1, if_neg (Int32.not_lt.mpr q)]
      have : sw_ix i T = none := by
        obtain ⟨j, hj, rfl⟩ := nI_of q0
        unfold sw_ix
        rw [if_neg]
        rintro ⟨-, z⟩
        rw [nI_clamp hj] at z
        exact absurd q (nI_ge z (by omega))
      rw [this]; rfl
  · rw [if_neg (nI_pos (by omega)), md_g12, Option.bind_some, h1, if_pos (nI_lt hj (by omega)), md_r11, Option.bind_some, Option.bind_some, md_s8, sw_ix_nI (by omega) (by omega), Option.bind_some, Option.bind_some, sw_ix_nI hj (by omega)]
theorem md_trim {T : Nat} (h : md_tk I T) (i : Int32) : f_X8_trim m0 i (n, md_mk m0 I Ar Aj) = some (if 0 ≤ i ∧ i ≤ nI T then (1, (n, md_mk m0 (upd I 12 i) Ar Aj)) else (0, (n, md_mk m0 I Ar Aj))) := by
  obtain ⟨h1, h2⟩ := h
  unfold f_X8_trim
  by_cases q0 : i < 0
  · rw [if_pos q0, if_neg (fun z => absurd q0 (Int32.not_lt.mpr z.1))]; rfl
  · rw [if_neg q0, md_g12, Option.bind_some, h1]
    by_cases q1 : i ≤ nI T
    · rw [if_pos q1, md_p12, Option.bind_some, if_pos ⟨Int32.not_lt.mp q0, q1⟩]
    · rw [if_neg q1, if_neg (fun z => q1 z.2)]; rfl
/-- the rows of the last check -/
def md_rw (I : Nat → Int32) (T : Nat) : Prop := I 29 = nI T ∧ T ≤ 300
theorem md_row {T : Nat} (h : md_rw I T) (i j : Int32) : f_X8_row m0 i j (n, md_mk m0 I Ar Aj) = some (match sw_ix i T with | some k => (if j = 0 then Ar 21 k else if j = 1 then Ar 22 k else 0) | none => 0) := by
  obtain ⟨h1, h2⟩ := h
  unfold f_X8_row
  rcases pk_ix i (n := T) (by omega) with q | q | ⟨k, hk, rfl⟩
  · rw [if_pos q]
    have : sw_ix i T = none := by unfold sw_ix; rw [if_neg (fun z => absurd q (Int32.not_lt.mpr z.1))]
    rw [this]; rfl
  · by_cases q0 : i < 0
    · rw [if_pos q0]
      have : sw_ix i T = none := by unfold sw_ix; rw [if_neg (fun z => absurd q0 (Int32.not_lt.mpr z.1))]
      rw [this]; rfl
    · rw [if_neg q0, md_g29, Option.bind_some, h1, if_neg (Int32.not_lt.mpr q)]
      have : sw_ix i T = none := by
        obtain ⟨k, hk, rfl⟩ := nI_of q0
        unfold sw_ix
        rw [if_neg]
        rintro ⟨-, z⟩
        rw [nI_clamp hk] at z
        exact absurd q (nI_ge z (by omega))
      rw [this]; rfl
  · rw [if_neg (nI_pos (by omega)), md_g29, Option.bind_some, h1, if_pos (nI_lt hk (by omega)), sw_ix_nI hk (by omega)]
    by_cases j0 : j = 0
    · rw [if_pos j0, md_r30, Option.bind_some, Option.bind_some, md_l21, sw_ix_nI (by omega) (by omega), Option.bind_some, Option.bind_some]
      simp only [if_pos j0]; rfl
    · rw [if_neg j0]
      by_cases j1 : j = 1
      · rw [if_pos j1, md_r31, Option.bind_some, Option.bind_some, md_l22, sw_ix_nI (by omega) (by omega), Option.bind_some, Option.bind_some]
        simp only [if_neg j0, if_pos j1]; rfl
      · rw [if_neg j1]
        simp only [if_neg j0, if_neg j1]; rfl
end M7
