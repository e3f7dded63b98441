/-! A NEW NODE -/
theorem pv_new_s {σ : sw_S} {a k : Nat} {fs : List Value} (ho : σ.2 a = some (.inr (1, fs))) (ha : a < σ.1) (x : sw_E) (v : Value) (hk : k < fs.length) : sw_pt 1 a k v (sw_nw σ x) = some (sw_up (sw_nw σ x) a (.inr (1, fs.set k v))) := by
  have : (sw_nw σ x).2 a = some (.inr (1, fs)) := by simp only [sw_nw]; rw [if_neg (by omega)]; exact ho
  simp [sw_pt, sw_ob, this, hk]
theorem pv_new {N : Nat} {P : Nat → Prop} {σ : sw_S} {H : pv_H} (h : pv_NS N P σ H) (hP : ∀ c, P c → c < σ.1) (hN : N ≤ 6) {lf : Int32} (hlf : lf = 0 ∨ lf = 1) : ∃ σ', f_X1_init σ.1 lf (nI N) (sw_nw σ (.inr (1, [.int 0, .null, .null, .null, .int 0, .int 0, .int 0, .int 0]))) = some σ' ∧ pv_NS N P σ' (va_up H σ.1 (some (lf, fun _ => (0, 0, none), nI 0, 0, 0, 0))) ∧ pv_sg P σ σ' ∧ σ'.1 = σ.1 + 4 := by
  have hz : sw_z lf = some lf := by unfold sw_z; rw [if_pos hlf]
  have hnl : sw_nl (nI N) 6 = some N := by
    unfold sw_nl
    rw [nI_clamp (by omega), if_pos ⟨nI_pos' (by omega), hN⟩]
  refine ⟨(σ.1 + 4, fun c => if c = σ.1 then some (nv_c N σ.1 (lf, fun _ => (0, 0, none), nI 0, 0, 0, 0) 0) else if c = σ.1 + 1 then some (nv_c N σ.1 (lf, fun _ => (0, 0, none), nI 0, 0, 0, 0) 1) else if c = σ.1 + 2 then some (nv_c N σ.1 (lf, fun _ => (0, 0, none), nI 0, 0, 0, 0) 2) else if c = σ.1 + 3 then some (nv_c N σ.1 (lf, fun _ => (0, 0, none), nI 0, 0, 0, 0) 3) else σ.2 c), ?_, ⟨?_, ?_, ?_, h.2.2.2⟩, ⟨by show σ.1 ≤ σ.1 + 4; omega, ?_⟩, rfl⟩
  · unfold f_X1_init
    rw [hz, Option.bind_some, hnl]
    have s0 : sw_pt 1 σ.1 0 (.int lf) (sw_nw σ (.inr (1, [.int 0, .null, .null, .null, .int 0, .int 0, .int 0, .int 0]))) = some (sw_up (sw_nw σ (.inr (1, [.int 0, .null, .null, .null, .int 0, .int 0, .int 0, .int 0]))) σ.1 (.inr (1, [.int lf, .null, .null, .null, .int 0, .int 0, .int 0, .int 0]))) := by simp [sw_pt, sw_ob, sw_nw]
    rw [s0, Option.bind_some, Option.bind_some, Option.bind_some]
    rw [pv_new_s (fs := [.int lf, .null, .null, .null, .int 0, .int 0, .int 0, .int 0]) (by simp [sw_up]) (by simp [sw_up, sw_nw]) _ _ (by simp), Option.bind_some, Option.bind_some, Option.bind_some]
    rw [pv_new_s (fs := [.int lf, .ref (σ.1 + 1), .null, .null, .int 0, .int 0, .int 0, .int 0]) (by simp [sw_up, sw_nw, va_rf]) (by simp [sw_up, sw_nw]; omega) _ _ (by simp), Option.bind_some, Option.bind_some, Option.bind_some]
    rw [pv_new_s (fs := [.int lf, .ref (σ.1 + 1), .ref (σ.1 + 2), .null, .int 0, .int 0, .int 0, .int 0]) (by simp [sw_up, sw_nw, va_rf]) (by simp [sw_up, sw_nw]; omega) _ _ (by simp), Option.bind_some]
    refine congrArg some (Prod.ext (by simp [sw_up, sw_nw]) ?_)
    simp only [sw_up, sw_nw]
    funext c
    simp only [nv_c]
    by_cases h0 : c = σ.1
    · subst h0; simp [nI_0, va_rf]
    · by_cases h1 : c = σ.1 + 1
      · subst h1; simp
      · by_cases h2 : c = σ.1 + 2
        · subst h2; simp
        · by_cases h3 : c = σ.1 + 3
          · subst h3; simp
          · simp [h0, h1, h2, h3]
  · intro b w hb i hi
    by_cases hb0 : b = σ.1
    · subst hb0
      rw [va_up_self] at hb
      cases hb
      simp only
      rcases (show i = 0 ∨ i = 1 ∨ i = 2 ∨ i = 3 by omega) with e | e | e | e <;> subst e
      · rw [if_pos (by omega)]
      · rw [if_neg (by omega), if_pos (by omega)]
      · rw [if_neg (by omega), if_neg (by omega), if_pos (by omega)]
      · rw [if_neg (by omega), if_neg (by omega), if_neg (by omega), if_pos (by omega)]
    · rw [va_up_ne _ _ hb0] at hb
      have := h.2.2.1 b w hb
      simp only
      rw [if_neg (by omega), if_neg (by omega), if_neg (by omega), if_neg (by omega)]
      exact h.1 b w hb i hi
  · intro b w i hb hi hp
    by_cases hb0 : b = σ.1
    · subst hb0; have := hP _ hp; omega
    · rw [va_up_ne _ _ hb0] at hb; exact h.2.1 b w i hb hi hp
  · intro b w hb
    by_cases hb0 : b = σ.1
    · subst hb0; show σ.1 + 3 < σ.1 + 4; omega
    · rw [va_up_ne _ _ hb0] at hb; have := h.2.2.1 b w hb; show b + 3 < σ.1 + 4; omega
  · intro c hc
    have := hP c hc
    simp only
    rw [if_neg (by omega), if_neg (by omega), if_neg (by omega), if_neg (by omega)]
theorem pv_NS.fresh {N : Nat} {P : Nat → Prop} {σ : sw_S} {H : pv_H} (h : pv_NS N P σ H) : H σ.1 = none := by
  cases e : H σ.1 with
  | none => rfl
  | some w => have := h.2.2.1 _ _ e; omega
/-- a node with no slots -/
theorem cp_new {N : Nat} {P : Nat → Prop} {σ : sw_S} {H : pv_H} {A : Nat → Nat → Nat} {Ek Ev : Nat → Int32} {l : Nat} (h : pv_NS N P σ H) (hP : ∀ c, P c → c < σ.1) (hN : N ≤ 6) (f : Nat) : ∃ σ' H', f_X1_init σ.1 (if l = 0 then 1 else 0) (nI N) (sw_nw σ (.inr (1, [.int 0, .null, .null, .null, .int 0, .int 0, .int 0, .int 0]))) = some σ' ∧ pv_NS N P σ' H' ∧ pv_sg P σ σ' ∧ (∀ y, y ≠ σ.1 → H' y = H y) ∧ cp_n H' σ.1 A Ek Ev l f 0 (0, 0, 0) := by
  obtain ⟨σ', e, q, t, -⟩ := pv_new h hP hN (lf := if l = 0 then 1 else 0) (by split <;> simp)
  exact ⟨σ', _, e, q, t, fun y hy => va_up_ne _ _ hy, _, va_up_self _ _ _, fun _ _ => rfl, fun j hj => absurd hj (by omega)⟩
/-- a value is set -/
theorem cp_vleaf {N : Nat} {P : Nat → Prop} {σ : sw_S} {H : pv_H} {A : Nat → Nat → Nat} {Ek Ev : Nat → Int32} {a f n q : Nat} {b : Int32 × Int32 × Int32} (v : Int32) (h : pv_NS N P σ H) (ha : cp_n H a A Ek Ev 0 f n b) (hn : n ≤ N) (hq : q < n) :
    sw_gR 1 a 2 σ = some (some (a + 2)) ∧ ∃ σ' H', sw_as 0 (a + 2) (nI q) v σ = some σ' ∧ pv_NS N P σ' H' ∧ pv_st P σ σ' ∧ (∀ y, y ≠ a → H' y = H y) ∧ cp_n H' a A Ek (upd Ev (f + q) v) 0 f n b := by
  obtain ⟨s, h1, h3, h2⟩ := ha
  obtain ⟨σ', e, q1, t⟩ := pv_w2 h h1 (j := q) (by omega) v
  refine ⟨pv_r2 h h1, σ', _, e, q1, t, fun y hy => va_up_ne _ _ hy, _, va_up_self _ _ _, fun _ => cp_no (h3 rfl), fun j hj => ⟨fun _ => ?_, fun h0 => absurd h0 (by omega)⟩⟩
  by_cases hj1 : j = q
  · subst hj1
    rw [va_up_self, (h2 j hj).1 rfl]; simp [upd]
  · rw [va_up_ne _ _ hj1, (h2 j hj).1 rfl]
    simp only [upd]
    rw [if_neg (by omega)]
