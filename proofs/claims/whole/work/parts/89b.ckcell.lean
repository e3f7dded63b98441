/-! THE CLASS'S CHECKER: its cells -/
def ck_o (x po F : Nat) (σ : sw_S) (v7 v8 v9 v10 v11 v12 : Int32) (fk fn fl fb fe : Nat → Int32) : Prop := σ.2 x = some (.inr (0, [.int (nI F), .ref po, .ref (x + 1), .ref (x + 2), .ref (x + 3), .ref (x + 4), .ref (x + 5), .int v7, .int v8, .int v9, .int v10, .int v11, .int v12])) ∧ σ.2 (x + 1) = some (.inl (0, 120, .inl fk)) ∧ σ.2 (x + 2) = some (.inl (0, 120, .inl fn)) ∧ σ.2 (x + 3) = some (.inl (2, 120, .inl fl)) ∧ σ.2 (x + 4) = some (.inl (0, 120, .inl fb)) ∧ σ.2 (x + 5) = some (.inl (0, 120, .inl fe))
/-- the tokens' cells -/
def ck_t (po : Nat) (f : Nat → Int32) (T : Nat) (σ : sw_S) : Prop := σ.2 po = some (.inr (2, [.ref (po + 1), .int (nI T)])) ∧ σ.2 (po + 1) = some (.inl (0, 240, .inl f))
def ck_fr (x : Nat) (σ σ' : sw_S) : Prop := σ'.1 = σ.1 ∧ ∀ c, (c < x ∨ x + 5 < c) → σ'.2 c = σ.2 c
theorem ck_fr.rf {x : Nat} {σ : sw_S} : ck_fr x σ σ := ⟨rfl, fun _ _ => rfl⟩
theorem ck_fr.tr {x : Nat} {σ σ1 σ2 : sw_S} (h : ck_fr x σ σ1) (h2 : ck_fr x σ1 σ2) : ck_fr x σ σ2 := ⟨h2.1.trans h.1, fun c hc => (h2.2 c hc).trans (h.2 c hc)⟩
theorem ck_fr.up {x j : Nat} {σ : sw_S} (hj : j ≤ 5) (e : sw_E) : ck_fr x σ (sw_up σ (x + j) e) := ⟨rfl, fun c hc => by simp only [sw_up]; rw [if_neg (by omega)]⟩
theorem ck_t.fr {po : Nat} {f : Nat → Int32} {T x : Nat} {σ σ' : sw_S} (h : ck_t po f T σ) (hx : po + 1 < x) (hf : ck_fr x σ σ') : ck_t po f T σ' := ⟨by rw [hf.2 _ (by omega)]; exact h.1, by rw [hf.2 _ (by omega)]; exact h.2⟩
section CKO
variable {x po F : Nat} {σ : sw_S} {v7 v8 v9 v10 v11 v12 : Int32} {fk fn fl fb fe : Nat → Int32}
theorem ck_o.ob (h : ck_o x po F σ v7 v8 v9 v10 v11 v12 fk fn fl fb fe) : sw_ob 0 x σ = some [.int (nI F), .ref po, .ref (x + 1), .ref (x + 2), .ref (x + 3), .ref (x + 4), .ref (x + 5), .int v7, .int v8, .int v9, .int v10, .int v11, .int v12] := by simp [sw_ob, h.1]
theorem ck_o.g0 (h : ck_o x po F σ v7 v8 v9 v10 v11 v12 fk fn fl fb fe) : sw_gI 0 x 0 σ = some (nI F) := by unfold sw_gI; rw [h.ob]; rfl
theorem ck_o.g7 (h : ck_o x po F σ v7 v8 v9 v10 v11 v12 fk fn fl fb fe) : sw_gI 0 x 7 σ = some v7 := by unfold sw_gI; rw [h.ob]; rfl
theorem ck_o.g8 (h : ck_o x po F σ v7 v8 v9 v10 v11 v12 fk fn fl fb fe) : sw_gI 0 x 8 σ = some v8 := by unfold sw_gI; rw [h.ob]; rfl
theorem ck_o.g9 (h : ck_o x po F σ v7 v8 v9 v10 v11 v12 fk fn fl fb fe) : sw_gI 0 x 9 σ = some v9 := by unfold sw_gI; rw [h.ob]; rfl
theorem ck_o.g10 (h : ck_o x po F σ v7 v8 v9 v10 v11 v12 fk fn fl fb fe) : sw_gI 0 x 10 σ = some v10 := by unfold sw_gI; rw [h.ob]; rfl
theorem ck_o.g11 (h : ck_o x po F σ v7 v8 v9 v10 v11 v12 fk fn fl fb fe) : sw_gI 0 x 11 σ = some v11 := by unfold sw_gI; rw [h.ob]; rfl
theorem ck_o.g12 (h : ck_o x po F σ v7 v8 v9 v10 v11 v12 fk fn fl fb fe) : sw_gI 0 x 12 σ = some v12 := by unfold sw_gI; rw [h.ob]; rfl
theorem ck_o.r1 (h : ck_o x po F σ v7 v8 v9 v10 v11 v12 fk fn fl fb fe) : sw_gR 0 x 1 σ = some (some po) := by unfold sw_gR; rw [h.ob]; rfl
theorem ck_o.r2 (h : ck_o x po F σ v7 v8 v9 v10 v11 v12 fk fn fl fb fe) : sw_gR 0 x 2 σ = some (some (x + 1)) := by unfold sw_gR; rw [h.ob]; rfl
theorem ck_o.r3 (h : ck_o x po F σ v7 v8 v9 v10 v11 v12 fk fn fl fb fe) : sw_gR 0 x 3 σ = some (some (x + 2)) := by unfold sw_gR; rw [h.ob]; rfl
theorem ck_o.r4 (h : ck_o x po F σ v7 v8 v9 v10 v11 v12 fk fn fl fb fe) : sw_gR 0 x 4 σ = some (some (x + 3)) := by unfold sw_gR; rw [h.ob]; rfl
theorem ck_o.r5 (h : ck_o x po F σ v7 v8 v9 v10 v11 v12 fk fn fl fb fe) : sw_gR 0 x 5 σ = some (some (x + 4)) := by unfold sw_gR; rw [h.ob]; rfl
theorem ck_o.r6 (h : ck_o x po F σ v7 v8 v9 v10 v11 v12 fk fn fl fb fe) : sw_gR 0 x 6 σ = some (some (x + 5)) := by unfold sw_gR; rw [h.ob]; rfl
theorem ck_o.p7 (h : ck_o x po F σ v7 v8 v9 v10 v11 v12 fk fn fl fb fe) (v : Int32) : ∃ σ', sw_pt 0 x 7 (.int v) σ = some σ' ∧ ck_o x po F σ' v v8 v9 v10 v11 v12 fk fn fl fb fe ∧ ck_fr x σ σ' := by
  refine ⟨_, by unfold sw_pt; rw [h.ob]; rfl, ⟨?_, ?_, ?_, ?_, ?_, ?_⟩, ck_fr.up (j := 0) (by decide) _⟩
  · simp only [sw_up]; rw [if_pos (by omega)]; rfl
  · simp only [sw_up]; rw [if_neg (by omega)]; exact h.2.1
  · simp only [sw_up]; rw [if_neg (by omega)]; exact h.2.2.1
  · simp only [sw_up]; rw [if_neg (by omega)]; exact h.2.2.2.1
  · simp only [sw_up]; rw [if_neg (by omega)]; exact h.2.2.2.2.1
  · simp only [sw_up]; rw [if_neg (by omega)]; exact h.2.2.2.2.2
theorem ck_o.p8 (h : ck_o x po F σ v7 v8 v9 v10 v11 v12 fk fn fl fb fe) (v : Int32) : ∃ σ', sw_pt 0 x 8 (.int v) σ = some σ' ∧ ck_o x po F σ' v7 v v9 v10 v11 v12 fk fn fl fb fe ∧ ck_fr x σ σ' := by
  refine ⟨_, by unfold sw_pt; rw [h.ob]; rfl, ⟨?_, ?_, ?_, ?_, ?_, ?_⟩, ck_fr.up (j := 0) (by decide) _⟩
  · simp only [sw_up]; rw [if_pos (by omega)]; rfl
  · simp only [sw_up]; rw [if_neg (by omega)]; exact h.2.1
  · simp only [sw_up]; rw [if_neg (by omega)]; exact h.2.2.1
  · simp only [sw_up]; rw [if_neg (by omega)]; exact h.2.2.2.1
  · simp only [sw_up]; rw [if_neg (by omega)]; exact h.2.2.2.2.1
  · simp only [sw_up]; rw [if_neg (by omega)]; exact h.2.2.2.2.2
theorem ck_o.p9 (h : ck_o x po F σ v7 v8 v9 v10 v11 v12 fk fn fl fb fe) (v : Int32) : ∃ σ', sw_pt 0 x 9 (.int v) σ = some σ' ∧ ck_o x po F σ' v7 v8 v v10 v11 v12 fk fn fl fb fe ∧ ck_fr x σ σ' := by
  refine ⟨_, by unfold sw_pt; rw [h.ob]; rfl, ⟨?_, ?_, ?_, ?_, ?_, ?_⟩, ck_fr.up (j := 0) (by decide) _⟩
  · simp only [sw_up]; rw [if_pos (by omega)]; rfl
  · simp only [sw_up]; rw [if_neg (by omega)]; exact h.2.1
  · simp only [sw_up]; rw [if_neg (by omega)]; exact h.2.2.1
  · simp only [sw_up]; rw [if_neg (by omega)]; exact h.2.2.2.1
  · simp only [sw_up]; rw [if_neg (by omega)]; exact h.2.2.2.2.1
  · simp only [sw_up]; rw [if_neg (by omega)]; exact h.2.2.2.2.2
theorem ck_o.p10 (h : ck_o x po F σ v7 v8 v9 v10 v11 v12 fk fn fl fb fe) (v : Int32) : ∃ σ', sw_pt 0 x 10 (.int v) σ = some σ' ∧ ck_o x po F σ' v7 v8 v9 v v11 v12 fk fn fl fb fe ∧ ck_fr x σ σ' := by
  refine ⟨_, by unfold sw_pt; rw [h.ob]; rfl, ⟨?_, ?_, ?_, ?_, ?_, ?_⟩, ck_fr.up (j := 0) (by decide) _⟩
  · simp only [sw_up]; rw [if_pos (by omega)]; rfl
  · simp only [sw_up]; rw [if_neg (by omega)]; exact h.2.1
  · simp only [sw_up]; rw [if_neg (by omega)]; exact h.2.2.1
  · simp only [sw_up]; rw [if_neg (by omega)]; exact h.2.2.2.1
  · simp only [sw_up]; rw [if_neg (by omega)]; exact h.2.2.2.2.1
  · simp only [sw_up]; rw [if_neg (by omega)]; exact h.2.2.2.2.2
theorem ck_o.p11 (h : ck_o x po F σ v7 v8 v9 v10 v11 v12 fk fn fl fb fe) (v : Int32) : ∃ σ', sw_pt 0 x 11 (.int v) σ = some σ' ∧ ck_o x po F σ' v7 v8 v9 v10 v v12 fk fn fl fb fe ∧ ck_fr x σ σ' := by
  refine ⟨_, by unfold sw_pt; rw [h.ob]; rfl, ⟨?_, ?_, ?_, ?_, ?_, ?_⟩, ck_fr.up (j := 0) (by decide) _⟩
  · simp only [sw_up]; rw [if_pos (by omega)]; rfl
  · simp only [sw_up]; rw [if_neg (by omega)]; exact h.2.1
  · simp only [sw_up]; rw [if_neg (by omega)]; exact h.2.2.1
  · simp only [sw_up]; rw [if_neg (by omega)]; exact h.2.2.2.1
  · simp only [sw_up]; rw [if_neg (by omega)]; exact h.2.2.2.2.1
  · simp only [sw_up]; rw [if_neg (by omega)]; exact h.2.2.2.2.2
theorem ck_o.p12 (h : ck_o x po F σ v7 v8 v9 v10 v11 v12 fk fn fl fb fe) (v : Int32) : ∃ σ', sw_pt 0 x 12 (.int v) σ = some σ' ∧ ck_o x po F σ' v7 v8 v9 v10 v11 v fk fn fl fb fe ∧ ck_fr x σ σ' := by
  refine ⟨_, by unfold sw_pt; rw [h.ob]; rfl, ⟨?_, ?_, ?_, ?_, ?_, ?_⟩, ck_fr.up (j := 0) (by decide) _⟩
  · simp only [sw_up]; rw [if_pos (by omega)]; rfl
  · simp only [sw_up]; rw [if_neg (by omega)]; exact h.2.1
  · simp only [sw_up]; rw [if_neg (by omega)]; exact h.2.2.1
  · simp only [sw_up]; rw [if_neg (by omega)]; exact h.2.2.2.1
  · simp only [sw_up]; rw [if_neg (by omega)]; exact h.2.2.2.2.1
  · simp only [sw_up]; rw [if_neg (by omega)]; exact h.2.2.2.2.2
theorem ck_o.l1 (h : ck_o x po F σ v7 v8 v9 v10 v11 v12 fk fn fl fb fe) {i : Nat} (hi : i < 120) : sw_al 0 (x + 1) (nI i) σ = some (fk i) := by simp [sw_al, sw_ai, h.2.1, sw_ix_nI hi (by decide)]
theorem ck_o.s1 (h : ck_o x po F σ v7 v8 v9 v10 v11 v12 fk fn fl fb fe) {i : Nat} (hi : i < 120) (v : Int32) : ∃ σ', sw_as 0 (x + 1) (nI i) v σ = some σ' ∧ ck_o x po F σ' v7 v8 v9 v10 v11 v12 (upd fk i v) fn fl fb fe ∧ ck_fr x σ σ' := by
  refine ⟨sw_up σ (x + 1) (.inl (0, 120, .inl (upd fk i v))), by simp [sw_as, sw_ai, h.2.1, sw_ix_nI hi (by decide)], ⟨?_, ?_, ?_, ?_, ?_, ?_⟩, ck_fr.up (j := 1) (by decide) _⟩
  · simp only [sw_up]; rw [if_neg (by omega)]; exact h.1
  · simp only [sw_up]; rw [if_pos trivial]
  · simp only [sw_up]; rw [if_neg (by omega)]; exact h.2.2.1
  · simp only [sw_up]; rw [if_neg (by omega)]; exact h.2.2.2.1
  · simp only [sw_up]; rw [if_neg (by omega)]; exact h.2.2.2.2.1
  · simp only [sw_up]; rw [if_neg (by omega)]; exact h.2.2.2.2.2
theorem ck_o.l2 (h : ck_o x po F σ v7 v8 v9 v10 v11 v12 fk fn fl fb fe) {i : Nat} (hi : i < 120) : sw_al 0 (x + 2) (nI i) σ = some (fn i) := by simp [sw_al, sw_ai, h.2.2.1, sw_ix_nI hi (by decide)]
theorem ck_o.s2 (h : ck_o x po F σ v7 v8 v9 v10 v11 v12 fk fn fl fb fe) {i : Nat} (hi : i < 120) (v : Int32) : ∃ σ', sw_as 0 (x + 2) (nI i) v σ = some σ' ∧ ck_o x po F σ' v7 v8 v9 v10 v11 v12 fk (upd fn i v) fl fb fe ∧ ck_fr x σ σ' := by
  refine ⟨sw_up σ (x + 2) (.inl (0, 120, .inl (upd fn i v))), by simp [sw_as, sw_ai, h.2.2.1, sw_ix_nI hi (by decide)], ⟨?_, ?_, ?_, ?_, ?_, ?_⟩, ck_fr.up (j := 2) (by decide) _⟩
  · simp only [sw_up]; rw [if_neg (by omega)]; exact h.1
  · simp only [sw_up]; rw [if_neg (by omega)]; exact h.2.1
  · simp only [sw_up]; rw [if_pos trivial]
  · simp only [sw_up]; rw [if_neg (by omega)]; exact h.2.2.2.1
  · simp only [sw_up]; rw [if_neg (by omega)]; exact h.2.2.2.2.1
  · simp only [sw_up]; rw [if_neg (by omega)]; exact h.2.2.2.2.2
theorem ck_o.l3 (h : ck_o x po F σ v7 v8 v9 v10 v11 v12 fk fn fl fb fe) {i : Nat} (hi : i < 120) : sw_al 2 (x + 3) (nI i) σ = some (fl i) := by simp [sw_al, sw_ai, h.2.2.2.1, sw_ix_nI hi (by decide)]
theorem ck_o.s3 (h : ck_o x po F σ v7 v8 v9 v10 v11 v12 fk fn fl fb fe) {i : Nat} (hi : i < 120) (v : Int32) : ∃ σ', sw_as 2 (x + 3) (nI i) v σ = some σ' ∧ ck_o x po F σ' v7 v8 v9 v10 v11 v12 fk fn (upd fl i v) fb fe ∧ ck_fr x σ σ' := by
  refine ⟨sw_up σ (x + 3) (.inl (2, 120, .inl (upd fl i v))), by simp [sw_as, sw_ai, h.2.2.2.1, sw_ix_nI hi (by decide)], ⟨?_, ?_, ?_, ?_, ?_, ?_⟩, ck_fr.up (j := 3) (by decide) _⟩
  · simp only [sw_up]; rw [if_neg (by omega)]; exact h.1
  · simp only [sw_up]; rw [if_neg (by omega)]; exact h.2.1
  · simp only [sw_up]; rw [if_neg (by omega)]; exact h.2.2.1
  · simp only [sw_up]; rw [if_pos trivial]
  · simp only [sw_up]; rw [if_neg (by omega)]; exact h.2.2.2.2.1
  · simp only [sw_up]; rw [if_neg (by omega)]; exact h.2.2.2.2.2
theorem ck_o.l4 (h : ck_o x po F σ v7 v8 v9 v10 v11 v12 fk fn fl fb fe) {i : Nat} (hi : i < 120) : sw_al 0 (x + 4) (nI i) σ = some (fb i) := by simp [sw_al, sw_ai, h.2.2.2.2.1, sw_ix_nI hi (by decide)]
theorem ck_o.s4 (h : ck_o x po F σ v7 v8 v9 v10 v11 v12 fk fn fl fb fe) {i : Nat} (hi : i < 120) (v : Int32) : ∃ σ', sw_as 0 (x + 4) (nI i) v σ = some σ' ∧ ck_o x po F σ' v7 v8 v9 v10 v11 v12 fk fn fl (upd fb i v) fe ∧ ck_fr x σ σ' := by
  refine ⟨sw_up σ (x + 4) (.inl (0, 120, .inl (upd fb i v))), by simp [sw_as, sw_ai, h.2.2.2.2.1, sw_ix_nI hi (by decide)], ⟨?_, ?_, ?_, ?_, ?_, ?_⟩, ck_fr.up (j := 4) (by decide) _⟩
  · simp only [sw_up]; rw [if_neg (by omega)]; exact h.1
  · simp only [sw_up]; rw [if_neg (by omega)]; exact h.2.1
  · simp only [sw_up]; rw [if_neg (by omega)]; exact h.2.2.1
  · simp only [sw_up]; rw [if_neg (by omega)]; exact h.2.2.2.1
  · simp only [sw_up]; rw [if_pos trivial]
  · simp only [sw_up]; rw [if_neg (by omega)]; exact h.2.2.2.2.2
theorem ck_o.l5 (h : ck_o x po F σ v7 v8 v9 v10 v11 v12 fk fn fl fb fe) {i : Nat} (hi : i < 120) : sw_al 0 (x + 5) (nI i) σ = some (fe i) := by simp [sw_al, sw_ai, h.2.2.2.2.2, sw_ix_nI hi (by decide)]
theorem ck_o.s5 (h : ck_o x po F σ v7 v8 v9 v10 v11 v12 fk fn fl fb fe) {i : Nat} (hi : i < 120) (v : Int32) : ∃ σ', sw_as 0 (x + 5) (nI i) v σ = some σ' ∧ ck_o x po F σ' v7 v8 v9 v10 v11 v12 fk fn fl fb (upd fe i v) ∧ ck_fr x σ σ' := by
  refine ⟨sw_up σ (x + 5) (.inl (0, 120, .inl (upd fe i v))), by simp [sw_as, sw_ai, h.2.2.2.2.2, sw_ix_nI hi (by decide)], ⟨?_, ?_, ?_, ?_, ?_, ?_⟩, ck_fr.up (j := 5) (by decide) _⟩
  · simp only [sw_up]; rw [if_neg (by omega)]; exact h.1
  · simp only [sw_up]; rw [if_neg (by omega)]; exact h.2.1
  · simp only [sw_up]; rw [if_neg (by omega)]; exact h.2.2.1
  · simp only [sw_up]; rw [if_neg (by omega)]; exact h.2.2.2.1
  · simp only [sw_up]; rw [if_neg (by omega)]; exact h.2.2.2.2.1
  · simp only [sw_up]; rw [if_pos trivial]
theorem ck_o.n1 (h : ck_o x po F σ v7 v8 v9 v10 v11 v12 fk fn fl fb fe) : sw_len (x + 1) σ = some (nI 120) := by simp [sw_len, h.2.1]; rfl
theorem ck_o.n4 (h : ck_o x po F σ v7 v8 v9 v10 v11 v12 fk fn fl fb fe) : sw_len (x + 4) σ = some (nI 120) := by simp [sw_len, h.2.2.2.2.1]; rfl
end CKO
theorem ck_t.ob {po : Nat} {f : Nat → Int32} {T : Nat} {σ : sw_S} (h : ck_t po f T σ) : sw_ob 2 po σ = some [.ref (po + 1), .int (nI T)] := by simp [sw_ob, h.1]
theorem ck_t.g1 {po : Nat} {f : Nat → Int32} {T : Nat} {σ : sw_S} (h : ck_t po f T σ) : sw_gI 2 po 1 σ = some (nI T) := by unfold sw_gI; rw [h.ob]; rfl
theorem ck_t.r0 {po : Nat} {f : Nat → Int32} {T : Nat} {σ : sw_S} (h : ck_t po f T σ) : sw_gR 2 po 0 σ = some (some (po + 1)) := by unfold sw_gR; rw [h.ob]; rfl
theorem ck_t.l {po : Nat} {f : Nat → Int32} {T : Nat} {σ : sw_S} (h : ck_t po f T σ) {i : Nat} (hi : i < 240) : sw_al 0 (po + 1) (nI i) σ = some (f i) := by simp [sw_al, sw_ai, h.2, sw_ix_nI hi (by decide)]
/-- rows that hold keys, rows that hold spans -/
def ck_kh (fk fn fl : Nat → Int32) (K : List ps_K) : Prop := ∀ i (h : i < K.length), fk i = K[i].1 ∧ fn i = K[i].2.1 ∧ fl i = K[i].2.2
def ck_ch (fb fe : Nat → Int32) (C : List (Nat × Nat)) : Prop := ∀ i (h : i < C.length), fb i = nI C[i].1 ∧ fe i = nI C[i].2
/-- the checker at token p with keys K and spans C, labels b -/
def ck (x po F : Nat) (f : Nat → Int32) (T : Nat) (σ : sw_S) (p : Nat) (K : List ps_K) (C : List (Nat × Nat)) (b : Int32 × Int32 × Int32) : Prop := ∃ fk fn fl fb fe, ck_o x po F σ (nI p) (nI K.length) (nI C.length) b.1 b.2.1 b.2.2 fk fn fl fb fe ∧ ck_kh fk fn fl K ∧ ck_ch fb fe C ∧ ck_t po f T σ
def ck_any (x po F : Nat) (f : Nat → Int32) (T : Nat) (σ : sw_S) : Prop := ∃ v7 v8 v9 v10 v11 v12 fk fn fl fb fe, ck_o x po F σ v7 v8 v9 v10 v11 v12 fk fn fl fb fe ∧ ck_t po f T σ
theorem ck.any {x po F : Nat} {f : Nat → Int32} {T : Nat} {σ : sw_S} {p : Nat} {K : List ps_K} {C : List (Nat × Nat)} {b : Int32 × Int32 × Int32} (h : ck x po F f T σ p K C b) : ck_any x po F f T σ := by
  obtain ⟨fk, fn, fl, fb, fe, h1, -, -, h2⟩ := h
  exact ⟨_, _, _, _, _, _, _, _, _, _, _, h1, h2⟩
section CKM
variable {x po F : Nat} {f : Nat → Int32} {T : Nat} {σ : sw_S} {p : Nat} {K : List ps_K} {C : List (Nat × Nat)} {b : Int32 × Int32 × Int32}
theorem ck.ob (h : ck x po F f T σ p K C b) : ∃ L, sw_ob 0 x σ = some L := by
  obtain ⟨fk, fn, fl, fb, fe, h1, -, -, -⟩ := h
  exact ⟨_, h1.ob⟩
theorem ck.hm (h : ck x po F f T σ p K C b) (hp : p ≤ T) (hT : T ≤ 240) {q : Nat} (hq : q < 1000) : f_X0_hasMore x (nI q) σ = some (if T < p + q then 0 else 1) := by
  obtain ⟨fk, fn, fl, fb, fe, h1, -, -, ht⟩ := h
  unfold f_X0_hasMore
  rw [h1.r1, Option.bind_some, Option.bind_some, ht.g1, Option.bind_some, h1.g7, Option.bind_some, pk_sub hp]
  by_cases c : T < p + q
  · rw [if_pos (nI_lt (by omega) (by omega)), if_pos c]; rfl
  · rw [if_neg (nI_nlt (by omega) (by omega)), if_neg c]; rfl
theorem ck.nx (hx : po + 1 < x) (h : ck x po F f T σ p K C b) (hp : p < T) (hT : T ≤ 240) : ∃ σ', f_X0_next x σ = some (f p, σ') ∧ ck x po F f T σ' (p + 1) K C b ∧ ck_fr x σ σ' := by
  obtain ⟨fk, fn, fl, fb, fe, h1, h2, h3, ht⟩ := h
  obtain ⟨σ1, e1, o1, t1⟩ := h1.p7 (nI (p + 1))
  refine ⟨σ1, ?_, ⟨fk, fn, fl, fb, fe, o1, h2, h3, ht.fr hx t1⟩, t1⟩
  have hh : f_X2_has po (nI p) σ = some 1 := by
    unfold f_X2_has
    rw [if_neg (nI_pos (by omega)), ht.g1, Option.bind_some, if_neg (nI_ge hp (by omega))]; rfl
  unfold f_X0_next
  rw [h1.r1, Option.bind_some, h1.g7, Option.bind_some, Option.bind_some, ht.ob, Option.bind_some, hh, Option.bind_some, if_neg (by decide), Option.bind_some, Option.bind_some, ht.r0, Option.bind_some, Option.bind_some, Option.bind_some, ht.l (by omega), Option.bind_some]
  unfold b_X0_next_30
  rw [h1.g7, Option.bind_some, nI_1, e1, Option.bind_some]
theorem ck_kh.app {fk fn fl : Nat → Int32} {K : List ps_K} (h : ck_kh fk fn fl K) (a : ps_K) : ck_kh (upd fk K.length a.1) (upd fn K.length a.2.1) (upd fl K.length a.2.2) (K ++ [a]) := by
  intro i hi
  simp only [List.length_append, List.length_cons, List.length_nil] at hi
  by_cases q : i = K.length
  · subst q; simp [pk_us]
  · rw [pk_un q, pk_un q, pk_un q, List.getElem_append_left (by omega)]; exact h i (by omega)
theorem ck_ch.app {fb fe : Nat → Int32} {C : List (Nat × Nat)} (h : ck_ch fb fe C) (a : Nat × Nat) : ck_ch (upd fb C.length (nI a.1)) (upd fe C.length (nI a.2)) (C ++ [a]) := by
  intro i hi
  simp only [List.length_append, List.length_cons, List.length_nil] at hi
  by_cases q : i = C.length
  · subst q; simp [pk_us]
  · rw [pk_un q, pk_un q, List.getElem_append_left (by omega)]; exact h i (by omega)
theorem ck.nt (hx : po + 1 < x) (h : ck x po F f T σ p K C b) (hK : K.length < 120) (key num out : Int32) (ho : out = 0 ∨ out = 1) : ∃ σ', f_X0_note x key num out σ = some σ' ∧ ck x po F f T σ' p (K ++ [(key, num, out)]) C b ∧ ck_fr x σ σ' := by
  obtain ⟨fk, fn, fl, fb, fe, h1, h2, h3, ht⟩ := h
  obtain ⟨σ1, e1, o1, t1⟩ := h1.s1 hK key
  obtain ⟨σ2, e2, o2, t2⟩ := o1.s2 hK num
  obtain ⟨σ3, e3, o3, t3⟩ := o2.s3 hK out
  obtain ⟨σ4, e4, o4, t4⟩ := o3.p8 (nI (K.length + 1))
  have tt := ((t1.tr t2).tr t3).tr t4
  have hz : sw_z out = some out := by unfold sw_z; rw [if_pos ho]
  refine ⟨σ4, ?_, ⟨_, _, _, fb, fe, ?_, h2.app (key, num, out), h3, ht.fr hx tt⟩, tt⟩
  · unfold f_X0_note
    rw [h1.g8, Option.bind_some, h1.r2, Option.bind_some, Option.bind_some, h1.n1, Option.bind_some, if_neg (nI_ge hK (by decide)), Option.bind_some, Option.bind_some, Option.bind_some, e1, Option.bind_some, o1.r3, Option.bind_some, o1.g8, Option.bind_some, Option.bind_some, e2, Option.bind_some, o2.r4, Option.bind_some, o2.g8, Option.bind_some, Option.bind_some, hz, Option.bind_some, e3, Option.bind_some, o3.g8, Option.bind_some, nI_1, e4, Option.bind_some]
    rfl
  · rw [List.length_append]; exact o4
theorem ck.nc (hx : po + 1 < x) (h : ck x po F f T σ p K C b) (hC : C.length < 120) (q : Nat) : ∃ σ', f_X0_noteChild x (nI q) σ = some σ' ∧ ck x po F f T σ' p K (C ++ [(q, K.length)]) b ∧ ck_fr x σ σ' := by
  obtain ⟨fk, fn, fl, fb, fe, h1, h2, h3, ht⟩ := h
  obtain ⟨σ1, e1, o1, t1⟩ := h1.s4 hC (nI q)
  obtain ⟨σ2, e2, o2, t2⟩ := o1.s5 hC (nI K.length)
  obtain ⟨σ3, e3, o3, t3⟩ := o2.p9 (nI (C.length + 1))
  have tt := (t1.tr t2).tr t3
  refine ⟨σ3, ?_, ⟨fk, fn, fl, _, _, ?_, h2, h3.app (q, K.length), ht.fr hx tt⟩, tt⟩
  · unfold f_X0_noteChild
    rw [h1.g9, Option.bind_some, h1.r5, Option.bind_some, Option.bind_some, h1.n4, Option.bind_some, if_neg (nI_ge hC (by decide)), Option.bind_some, Option.bind_some, Option.bind_some, e1, Option.bind_some, o1.r6, Option.bind_some, o1.g9, Option.bind_some, o1.g8, Option.bind_some, Option.bind_some, e2, Option.bind_some, o2.g9, Option.bind_some, nI_1, e3, Option.bind_some]
    rfl
  · rw [List.length_append]; exact o3
theorem ck.lb (hx : po + 1 < x) (h : ck x po F f T σ p K C b) (le co di : Int32) : ∃ σ1 σ2 σ3, sw_pt 0 x 10 (.int le) σ = some σ1 ∧ sw_pt 0 x 12 (.int co) σ1 = some σ2 ∧ sw_pt 0 x 11 (.int di) σ2 = some σ3 ∧ ck x po F f T σ3 p K C (le, di, co) ∧ ck_fr x σ σ3 := by
  obtain ⟨fk, fn, fl, fb, fe, h1, h2, h3, ht⟩ := h
  obtain ⟨σ1, e1, o1, t1⟩ := h1.p10 le
  obtain ⟨σ2, e2, o2, t2⟩ := o1.p12 co
  obtain ⟨σ3, e3, o3, t3⟩ := o2.p11 di
  have tt := (t1.tr t2).tr t3
  exact ⟨σ1, σ2, σ3, e1, e2, e3, ⟨fk, fn, fl, fb, fe, o3, h2, h3, ht.fr hx tt⟩, tt⟩
end CKM
