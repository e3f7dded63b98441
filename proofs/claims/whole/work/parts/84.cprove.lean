/-! WHAT A PROOF IS: the tokens of a node -/
def pr_q (a b cn : Int32) (s e : Int64) : Bool := decide (b.toInt64 < s) || decide (e ≤ a.toInt64) || (decide (cn ≠ 0) && decide (a.toInt64 ≤ s) && decide (e ≤ b.toInt64 + 1))
def pr_c (g : Nat → List Int32) : Nat → Nat → List Int32
  | _, 0 => []
  | j, r + 1 => g j ++ pr_c g (j + 1) r
def pr_lo (Z : Nat → Nat → Nat) (Ek Ev : Nat → Int32) (l k : Nat) : List Int32 := [0, Ek (pv_fi Z l k), pv_dg Z Ek Ev l k, pv_cn Z l k]
def pr_cf (Z : Nat → Nat → Nat) (Ek : Nat → Int32) (l f : Nat) (fr : Int64) (j : Nat) : Int64 := if j = 0 then fr else (Ek (pv_fi Z l (f + j))).toInt64
def pr_ce (Z : Nat → Nat → Nat) (Ek : Nat → Int32) (l f n : Nat) (en : Int64) (j : Nat) : Int64 := if j + 1 < n then (Ek (pv_fi Z l (f + (j + 1)))).toInt64 else en
def pr_f (q : Int64 → Int64 → Bool) (Z : Nat → Nat → Nat) (Ek Ev : Nat → Int32) : Nat → Nat → Int64 → Int64 → List Int32
  | 0, k, _, _ => 1 :: nI (Z 0 k) :: pr_c (fun j => [Ek (pv_sum (Z 0) k + j), Ev (pv_sum (Z 0) k + j)]) 0 (Z 0 k)
  | l + 1, k, fr, en => 2 :: nI (Z (l + 1) k) :: pr_c (fun j => if q (pr_cf Z Ek l (pv_sum (Z (l + 1)) k) fr j) (pr_ce Z Ek l (pv_sum (Z (l + 1)) k) (Z (l + 1) k) en j) = true then pr_lo Z Ek Ev l (pv_sum (Z (l + 1)) k + j) else pr_f q Z Ek Ev l (pv_sum (Z (l + 1)) k + j) (pr_cf Z Ek l (pv_sum (Z (l + 1)) k) fr j) (pr_ce Z Ek l (pv_sum (Z (l + 1)) k) (Z (l + 1) k) en j)) 0 (Z (l + 1) k)
def pr_g (q : Int64 → Int64 → Bool) (Z : Nat → Nat → Nat) (Ek Ev : Nat → Int32) (l k : Nat) (fr en : Int64) (j : Nat) : List Int32 := if q (pr_cf Z Ek l (pv_sum (Z (l + 1)) k) fr j) (pr_ce Z Ek l (pv_sum (Z (l + 1)) k) (Z (l + 1) k) en j) = true then pr_lo Z Ek Ev l (pv_sum (Z (l + 1)) k + j) else pr_f q Z Ek Ev l (pv_sum (Z (l + 1)) k + j) (pr_cf Z Ek l (pv_sum (Z (l + 1)) k) fr j) (pr_ce Z Ek l (pv_sum (Z (l + 1)) k) (Z (l + 1) k) en j)
theorem pr_f_s (q : Int64 → Int64 → Bool) (Z : Nat → Nat → Nat) (Ek Ev : Nat → Int32) (l k : Nat) (fr en : Int64) : pr_f q Z Ek Ev (l + 1) k fr en = 2 :: nI (Z (l + 1) k) :: pr_c (pr_g q Z Ek Ev l k fr en) 0 (Z (l + 1) k) := rfl
/-- spans of ints, or far beyond them -/
def pr_ok (e : Int64) : Prop := -4611686018427387904 ≤ e.toInt ∧ e.toInt ≤ 4611686018427387904
theorem pr_ok_i (x : Int32) : pr_ok x.toInt64 := by
  have h1 := Int32.le_toInt x
  have h2 := Int32.toInt_lt x
  unfold pr_ok
  rw [Int32.toInt_toInt64]
  omega
theorem pr_e1 {e : Int64} {b : Int32} (h : pr_ok e) : b.toInt64 < e - 1 ↔ ¬ e ≤ b.toInt64 + 1 := by
  have h1 := Int32.le_toInt b
  have h2 := Int32.toInt_lt b
  have e1 : (e - 1).toInt = e.toInt - 1 := by
    rw [Int64.toInt_sub]
    show Int.bmod (e.toInt - 1) _ = _
    apply Int.bmod_eq_of_le <;> have := h.1 <;> have := h.2 <;> omega
  have e2 : (b.toInt64 + 1).toInt = b.toInt + 1 := by
    rw [Int64.toInt_add, Int32.toInt_toInt64]
    show Int.bmod (b.toInt + 1) _ = _
    apply Int.bmod_eq_of_le <;> omega
  rw [Int64.lt_iff_toInt_lt, Int64.le_iff_toInt_le, e1, e2, Int32.toInt_toInt64]
  omega
theorem pr_isLeft (a b cn : Int32) (s e : Int64) (σ : sw_S) : f_X8_isLeft s e a b cn σ = some (if pr_q a b cn s e = true then 1 else 0) := by
  unfold f_X8_isLeft
  simp only [lg_cmp_gt, lg_cmp_le, lg_cmp_lt, b_X8_isLeft_39, b_X8_isLeft_43, b_X8_isLeft_44]
  unfold pr_q
  by_cases h1 : b.toInt64 < s
  · simp [h1, sw_z]
  · by_cases h2 : e ≤ a.toInt64
    · simp [h1, h2, sw_z]
    · by_cases h3 : cn = 0
      · simp [h1, h2, h3, sw_z]
      · by_cases h4 : s < a.toInt64
        · have h4' : ¬ a.toInt64 ≤ s := Int64.not_le.mpr h4
          simp [h1, h2, h3, h4, h4', sw_z]
        · have h4' : a.toInt64 ≤ s := Int64.not_lt.mp h4
          by_cases h5 : b.toInt64 + 1 < e
          · have h5' : ¬ e ≤ b.toInt64 + 1 := Int64.not_le.mpr h5
            simp [h1, h2, h3, h4, h4', h5, h5', sw_z]
          · have h5' : e ≤ b.toInt64 + 1 := Int64.not_lt.mp h5
            simp [h1, h2, h3, h4, h4', h5, h5', sw_z]
theorem pr_leaves {σ : sw_S} {qu : Nat} {a b cn : Int32} (hq : σ.2 qu = some (.inr (4, [.int a, .int b, .int cn]))) (s : Int64) {e : Int64} (he : pr_ok e) : f_X4_leavesOut qu s e σ = some (if pr_q a b cn s e = true then 1 else 0) := by
  have ho : sw_ob 4 qu σ = some [.int a, .int b, .int cn] := by simp [sw_ob, hq]
  have g0 : sw_gI 4 qu 0 σ = some a := by unfold sw_gI; rw [ho]; rfl
  have g1 : sw_gI 4 qu 1 σ = some b := by unfold sw_gI; rw [ho]; rfl
  have g2 : sw_gI 4 qu 2 σ = some cn := by unfold sw_gI; rw [ho]; rfl
  unfold f_X4_leavesOut f_X4_misses f_X4_holds
  rw [ho, g0, g1, g2]
  simp only [lg_cmp_gt, lg_cmp_le, lg_cmp_lt, b_X4_misses_20, b_X4_misses_25, b_X4_holds_26, b_X4_holds_27, b_X4_leavesOut_25, b_X4_leavesOut_29, b_X4_leavesOut_30, Option.bind_some, pr_e1 he]
  unfold pr_q
  by_cases h2 : e ≤ a.toInt64
  · simp [h2, sw_z]
  · by_cases h1 : s ≤ b.toInt64
    · have h1' : ¬ b.toInt64 < s := Int64.not_lt.mpr h1
      by_cases h3 : cn = 0
      · simp [h1, h1', h2, h3, sw_z]
      · by_cases h4 : s < a.toInt64
        · have h4' : ¬ a.toInt64 ≤ s := Int64.not_le.mpr h4
          simp [h1, h1', h2, h3, h4, h4', sw_z]
        · have h4' : a.toInt64 ≤ s := Int64.not_lt.mp h4
          by_cases h5 : e ≤ b.toInt64 + 1
          · simp [h1, h1', h2, h3, h4, h4', h5, sw_z]
          · simp [h1, h1', h2, h3, h4, h4', h5, sw_z]
    · have h1' : b.toInt64 < s := Int64.not_le.mp h1
      simp [h1, h1', h2, sw_z]
/-- a row holds a list -/
def tk (f : Nat → Int32) (L : List Int32) : Prop := ∀ i (h : i < L.length), f i = L[i]
theorem tk.app {f : Nat → Int32} {L : List Int32} (h : tk f L) (x : Int32) : tk (upd f L.length x) (L ++ [x]) := by
  intro i hi
  simp only [List.length_append, List.length_cons, List.length_nil] at hi
  simp only [upd]
  by_cases q : i = L.length
  · subst q; simp
  · rw [if_neg q, List.getElem_append_left (by omega)]; exact h i (by omega)
