/-! NODES AS A MAP: address to (leaf, slots, size, least, count, digest); a slot is a key, a value, a child -/
abbrev pv_s : Type := Nat → Int32 × Int32 × Option Nat
abbrev pv_V : Type := Int32 × pv_s × Int32 × Int32 × Int32 × Int32
abbrev pv_H : Type := Nat → Option pv_V
def nv_c (N a : Nat) (v : pv_V) : Nat → sw_E
  | 0 => .inr (1, [.int v.1, .ref (a + 1), .ref (a + 2), .ref (a + 3), .int v.2.2.1, .int v.2.2.2.1, .int v.2.2.2.2.1, .int v.2.2.2.2.2])
  | 1 => .inl (0, N, .inl fun j => (v.2.1 j).1)
  | 2 => .inl (0, N, .inl fun j => (v.2.1 j).2.1)
  | _ => .inl (3, N, .inr (.inr (.inr (.inr fun j => (v.2.1 j).2.2))))
def nv_h (N : Nat) (σ : sw_S) (H : pv_H) : Prop := ∀ a v, H a = some v → ∀ i, i < 4 → σ.2 (a + i) = some (nv_c N a v i)
/-- the nodes of H lie in σ, none of them in P, all below the heap's end -/
def pv_NS (N : Nat) (P : Nat → Prop) (σ : sw_S) (H : pv_H) : Prop := nv_h N σ H ∧ (∀ b w i, H b = some w → i < 4 → ¬ P (b + i)) ∧ (∀ b w, H b = some w → b + 3 < σ.1) ∧ 0 < N ∧ N < 1000
def pv_st (P : Nat → Prop) (σ σ' : sw_S) : Prop := σ'.1 = σ.1 ∧ ∀ c, P c → σ'.2 c = σ.2 c
theorem pv_st.rf {P : Nat → Prop} {σ : sw_S} : pv_st P σ σ := ⟨rfl, fun _ _ => rfl⟩
theorem pv_st.tr {P : Nat → Prop} {σ σ1 σ2 : sw_S} (h : pv_st P σ σ1) (h2 : pv_st P σ1 σ2) : pv_st P σ σ2 := ⟨h2.1.trans h.1, fun c hc => (h2.2 c hc).trans (h.2 c hc)⟩
theorem nv_sep {N : Nat} {σ : sw_S} {H : pv_H} (h : nv_h N σ H) {a b : Nat} {v w : pv_V} (ha : H a = some v) (hb : H b = some w) (hab : a ≠ b) {i j : Nat} (hi : i < 4) (hj : j < 4) : a + i ≠ b + j := by
  intro he
  have h0 := h a v ha 0 (by omega)
  have h1 := h a v ha 1 (by omega)
  have h2 := h a v ha 2 (by omega)
  have h3 := h a v ha 3 (by omega)
  have g0 := h b w hb 0 (by omega)
  have g1 := h b w hb 1 (by omega)
  have g2 := h b w hb 2 (by omega)
  have g3 := h b w hb 3 (by omega)
  rcases (show i < j ∨ i = j ∨ j < i by omega) with hlt | heq | hgt
  · -- a = b + (j - i)
    have : a = b + (j - i) := by omega
    rcases (show j - i = 1 ∨ j - i = 2 ∨ j - i = 3 by omega) with q | q | q <;> rw [q] at this <;> subst this <;> simp only [Nat.add_zero] at h0
    · rw [h0] at g1; cases g1
    · rw [h0] at g2; cases g2
    · rw [h0] at g3; cases g3
  · exact hab (by omega)
  · have : b = a + (i - j) := by omega
    rcases (show i - j = 1 ∨ i - j = 2 ∨ i - j = 3 by omega) with q | q | q <;> rw [q] at this <;> subst this <;> simp only [Nat.add_zero] at g0
    · rw [g0] at h1; cases h1
    · rw [g0] at h2; cases h2
    · rw [g0] at h3; cases h3
/-- one cell of a node is written -/
theorem pv_NS.up {N : Nat} {P : Nat → Prop} {σ : sw_S} {H : pv_H} (h : pv_NS N P σ H) {a : Nat} {v v' : pv_V} (ha : H a = some v) {i : Nat} (hi : i < 4) (hv : ∀ j, j < 4 → j ≠ i → nv_c N a v' j = nv_c N a v j) : pv_NS N P (sw_up σ (a + i) (nv_c N a v' i)) (va_up H a (some v')) ∧ pv_st P σ (sw_up σ (a + i) (nv_c N a v' i)) := by
  refine ⟨⟨?_, ?_, ?_, h.2.2.2⟩, rfl, ?_⟩
  · intro b w hb j hj
    simp only [sw_up]
    by_cases hba : b = a
    · subst hba
      rw [va_up_self] at hb
      cases hb
      by_cases hji : j = i
      · subst hji; rw [if_pos rfl]
      · rw [if_neg (by omega), h.1 b v ha j hj, hv j hj hji]
    · rw [va_up_ne _ _ hba] at hb
      rw [if_neg (nv_sep h.1 hb ha hba hj hi)]
      exact h.1 b w hb j hj
  · intro b w j hb hj
    by_cases hba : b = a
    · subst hba; exact h.2.1 b v j ha hj
    · rw [va_up_ne _ _ hba] at hb; exact h.2.1 b w j hb hj
  · intro b w hb
    by_cases hba : b = a
    · subst hba; exact h.2.2.1 b v ha
    · rw [va_up_ne _ _ hba] at hb; exact h.2.2.1 b w hb
  · intro c hc
    simp only [sw_up]
    rw [if_neg]
    rintro rfl
    exact h.2.1 a v i ha hi hc
section ND
variable {N : Nat} {P : Nat → Prop} {σ : sw_S} {H : pv_H} {a : Nat} {lf sz le co di : Int32} {s : pv_s}
theorem pv_ob (h : pv_NS N P σ H) (ha : H a = some (lf, s, sz, le, co, di)) : sw_ob 1 a σ = some [.int lf, .ref (a + 1), .ref (a + 2), .ref (a + 3), .int sz, .int le, .int co, .int di] := by
  have h0 := h.1 a _ ha 0 (by omega)
  rw [Nat.add_zero] at h0
  simp [sw_ob, h0, nv_c]
theorem pv_g0 (h : pv_NS N P σ H) (ha : H a = some (lf, s, sz, le, co, di)) : sw_gI 1 a 0 σ = some lf := by unfold sw_gI; rw [pv_ob h ha]; rfl
theorem pv_g4 (h : pv_NS N P σ H) (ha : H a = some (lf, s, sz, le, co, di)) : sw_gI 1 a 4 σ = some sz := by unfold sw_gI; rw [pv_ob h ha]; rfl
theorem pv_g5 (h : pv_NS N P σ H) (ha : H a = some (lf, s, sz, le, co, di)) : sw_gI 1 a 5 σ = some le := by unfold sw_gI; rw [pv_ob h ha]; rfl
theorem pv_g6 (h : pv_NS N P σ H) (ha : H a = some (lf, s, sz, le, co, di)) : sw_gI 1 a 6 σ = some co := by unfold sw_gI; rw [pv_ob h ha]; rfl
theorem pv_g7 (h : pv_NS N P σ H) (ha : H a = some (lf, s, sz, le, co, di)) : sw_gI 1 a 7 σ = some di := by unfold sw_gI; rw [pv_ob h ha]; rfl
theorem pv_r1 (h : pv_NS N P σ H) (ha : H a = some (lf, s, sz, le, co, di)) : sw_gR 1 a 1 σ = some (some (a + 1)) := by unfold sw_gR; rw [pv_ob h ha]; rfl
theorem pv_r2 (h : pv_NS N P σ H) (ha : H a = some (lf, s, sz, le, co, di)) : sw_gR 1 a 2 σ = some (some (a + 2)) := by unfold sw_gR; rw [pv_ob h ha]; rfl
theorem pv_r3 (h : pv_NS N P σ H) (ha : H a = some (lf, s, sz, le, co, di)) : sw_gR 1 a 3 σ = some (some (a + 3)) := by unfold sw_gR; rw [pv_ob h ha]; rfl
theorem pv_a1 (h : pv_NS N P σ H) (ha : H a = some (lf, s, sz, le, co, di)) {j : Nat} (hj : j < N) : sw_al 0 (a + 1) (nI j) σ = some (s j).1 := by
  have h0 := h.1 a _ ha 1 (by omega)
  simp [sw_al, sw_ai, h0, nv_c, sw_ix_nI hj (by have := h.2.2.2.2; omega)]
theorem pv_a2 (h : pv_NS N P σ H) (ha : H a = some (lf, s, sz, le, co, di)) {j : Nat} (hj : j < N) : sw_al 0 (a + 2) (nI j) σ = some (s j).2.1 := by
  have h0 := h.1 a _ ha 2 (by omega)
  simp [sw_al, sw_ai, h0, nv_c, sw_ix_nI hj (by have := h.2.2.2.2; omega)]
theorem pv_a3 (h : pv_NS N P σ H) (ha : H a = some (lf, s, sz, le, co, di)) {j : Nat} (hj : j < N) : sw_ql (a + 3) (nI j) σ = some (s j).2.2 := by
  have h0 := h.1 a _ ha 3 (by omega)
  simp [sw_ql, sw_aq, h0, nv_c, sw_ix_nI hj (by have := h.2.2.2.2; omega)]
theorem pv_w1 (h : pv_NS N P σ H) (ha : H a = some (lf, s, sz, le, co, di)) {j : Nat} (hj : j < N) (x : Int32) : ∃ σ', sw_as 0 (a + 1) (nI j) x σ = some σ' ∧ pv_NS N P σ' (va_up H a (some (lf, va_up s j (x, (s j).2), sz, le, co, di))) ∧ pv_st P σ σ' := by
  have h0 := h.1 a _ ha 1 (by omega)
  have e : (upd (fun i => (s i).1) j x) = fun i => (va_up s j (x, (s j).2) i).1 := by
    funext i; by_cases hi : i = j <;> simp [upd, va_up, hi]
  refine ⟨_, ?_, h.up ha (i := 1) (v' := (lf, va_up s j (x, (s j).2), sz, le, co, di)) (by omega) (fun k hk hk1 => ?_)⟩
  · simp [sw_as, sw_ai, h0, nv_c, sw_ix_nI hj (by have := h.2.2.2.2; omega), e]
  · match k, hk1 with
    | 0, _ => rfl
    | 1, q => exact absurd rfl q
    | 2, _ => simp only [nv_c]; congr 4; funext i; by_cases hi : i = j <;> simp [va_up, hi]
    | k + 3, _ => simp only [nv_c]; congr 7; funext i; by_cases hi : i = j <;> simp [va_up, hi]
theorem pv_w2 (h : pv_NS N P σ H) (ha : H a = some (lf, s, sz, le, co, di)) {j : Nat} (hj : j < N) (x : Int32) : ∃ σ', sw_as 0 (a + 2) (nI j) x σ = some σ' ∧ pv_NS N P σ' (va_up H a (some (lf, va_up s j ((s j).1, x, (s j).2.2), sz, le, co, di))) ∧ pv_st P σ σ' := by
  have h0 := h.1 a _ ha 2 (by omega)
  have e : (upd (fun i => (s i).2.1) j x) = fun i => (va_up s j ((s j).1, x, (s j).2.2) i).2.1 := by
    funext i; by_cases hi : i = j <;> simp [upd, va_up, hi]
  refine ⟨_, ?_, h.up ha (i := 2) (v' := (lf, va_up s j ((s j).1, x, (s j).2.2), sz, le, co, di)) (by omega) (fun k hk hk1 => ?_)⟩
  · simp [sw_as, sw_ai, h0, nv_c, sw_ix_nI hj (by have := h.2.2.2.2; omega), e]
  · match k, hk1 with
    | 0, _ => rfl
    | 1, _ => simp only [nv_c]; congr 4; funext i; by_cases hi : i = j <;> simp [va_up, hi]
    | 2, q => exact absurd rfl q
    | k + 3, _ => simp only [nv_c]; congr 7; funext i; by_cases hi : i = j <;> simp [va_up, hi]
theorem pv_w3 (h : pv_NS N P σ H) (ha : H a = some (lf, s, sz, le, co, di)) {j : Nat} (hj : j < N) {r : Option Nat} (hr : ∀ b, r = some b → ∃ w, H b = some w) : ∃ σ', sw_qs (a + 3) (nI j) r σ = some σ' ∧ pv_NS N P σ' (va_up H a (some (lf, va_up s j ((s j).1, (s j).2.1, r), sz, le, co, di))) ∧ pv_st P σ σ' := by
  have h0 := h.1 a _ ha 3 (by omega)
  have hN : sw_isN r σ = some r := by
    cases r with
    | none => rfl
    | some b =>
      obtain ⟨⟨l', s', z', e', c', d'⟩, hw⟩ := hr b rfl
      simp [sw_isN, pv_ob h hw]
  have e : (va_up (fun i => (s i).2.2) j r) = fun i => (va_up s j ((s j).1, (s j).2.1, r) i).2.2 := by
    funext i; by_cases hi : i = j <;> simp [va_up, hi]
  refine ⟨_, ?_, h.up ha (i := 3) (v' := (lf, va_up s j ((s j).1, (s j).2.1, r), sz, le, co, di)) (by omega) (fun k hk hk1 => ?_)⟩
  · simp [sw_qs, sw_aq, h0, nv_c, sw_ix_nI hj (by have := h.2.2.2.2; omega), hN, e]
  · match k, hk, hk1 with
    | 0, _, _ => rfl
    | 1, _, _ => simp only [nv_c]; congr 4; funext i; by_cases hi : i = j <;> simp [va_up, hi]
    | 2, _, _ => simp only [nv_c]; congr 4; funext i; by_cases hi : i = j <;> simp [va_up, hi]
    | 3, _, q => exact absurd rfl q
theorem pv_p4 (h : pv_NS N P σ H) (ha : H a = some (lf, s, sz, le, co, di)) (x : Int32) : ∃ σ', sw_pt 1 a 4 (.int x) σ = some σ' ∧ pv_NS N P σ' (va_up H a (some (lf, s, x, le, co, di))) ∧ pv_st P σ σ' := by
  refine ⟨_, ?_, h.up ha (i := 0) (v' := (lf, s, x, le, co, di)) (by omega) (fun k hk hk1 => ?_)⟩
  · unfold sw_pt; rw [pv_ob h ha]; rfl
  · match k, hk1 with
    | 0, q => exact absurd rfl q
    | 1, _ => rfl
    | 2, _ => rfl
    | k + 3, _ => rfl
theorem pv_p5 (h : pv_NS N P σ H) (ha : H a = some (lf, s, sz, le, co, di)) (x : Int32) : ∃ σ', sw_pt 1 a 5 (.int x) σ = some σ' ∧ pv_NS N P σ' (va_up H a (some (lf, s, sz, x, co, di))) ∧ pv_st P σ σ' := by
  refine ⟨_, ?_, h.up ha (i := 0) (v' := (lf, s, sz, x, co, di)) (by omega) (fun k hk hk1 => ?_)⟩
  · unfold sw_pt; rw [pv_ob h ha]; rfl
  · match k, hk1 with
    | 0, q => exact absurd rfl q
    | 1, _ => rfl
    | 2, _ => rfl
    | k + 3, _ => rfl
theorem pv_p6 (h : pv_NS N P σ H) (ha : H a = some (lf, s, sz, le, co, di)) (x : Int32) : ∃ σ', sw_pt 1 a 6 (.int x) σ = some σ' ∧ pv_NS N P σ' (va_up H a (some (lf, s, sz, le, x, di))) ∧ pv_st P σ σ' := by
  refine ⟨_, ?_, h.up ha (i := 0) (v' := (lf, s, sz, le, x, di)) (by omega) (fun k hk hk1 => ?_)⟩
  · unfold sw_pt; rw [pv_ob h ha]; rfl
  · match k, hk1 with
    | 0, q => exact absurd rfl q
    | 1, _ => rfl
    | 2, _ => rfl
    | k + 3, _ => rfl
theorem pv_p7 (h : pv_NS N P σ H) (ha : H a = some (lf, s, sz, le, co, di)) (x : Int32) : ∃ σ', sw_pt 1 a 7 (.int x) σ = some σ' ∧ pv_NS N P σ' (va_up H a (some (lf, s, sz, le, co, x))) ∧ pv_st P σ σ' := by
  refine ⟨_, ?_, h.up ha (i := 0) (v' := (lf, s, sz, le, co, x)) (by omega) (fun k hk hk1 => ?_)⟩
  · unfold sw_pt; rw [pv_ob h ha]; rfl
  · match k, hk1 with
    | 0, q => exact absurd rfl q
    | 1, _ => rfl
    | 2, _ => rfl
    | k + 3, _ => rfl
end ND
