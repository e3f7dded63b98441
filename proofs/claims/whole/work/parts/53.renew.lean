/-! NODE.renew, moveSlot, moveTail, childFor -/
def pv_it {α : Type} (f : Nat → α → α) : Nat → α → α
  | 0, x => x
  | n + 1, x => f n (pv_it f n x)
def pv_leafD (s : pv_s) (n : Nat) : Int32 := pv_it (fun j h => pv_mix (pv_mix h (s j).1) (s j).2.1) n (pv_mix (pv_mix 1 1) (nI n))
/-- least, digest, count of what a child is -/
def pv_lb (H : pv_H) (r : Option Nat) : Int32 × Int32 × Int32 := match r.bind H with
  | some v => (v.2.2.2.1, v.2.2.2.2.2, v.2.2.2.2.1)
  | none => (0, 0, 0)
def pv_lm (h : Int32) (b : Int32 × Int32 × Int32) : Int32 := pv_mix (pv_mix (pv_mix h b.1) b.2.1) b.2.2
def pv_innD (H : pv_H) (s : pv_s) (n : Nat) : Int32 := pv_it (fun j h => pv_lm h (pv_lb H (s j).2.2)) n (pv_mix (pv_mix 1 2) (nI n))
def pv_innC (H : pv_H) (s : pv_s) (n : Nat) : Int32 := pv_it (fun j x => x + (pv_lb H (s j).2.2).2.2) n 0
section RN
variable {N : Nat} {P : Nat → Prop} {σ : sw_S} {H : pv_H} {a : Nat} {lf le co di : Int32} {s : pv_s} {n : Nat}
theorem pv_renew_end (h : pv_NS N P σ H) (ha : H a = some (lf, s, nI n, le, co, di)) (hn : n ≤ N) (x d : Int32) (rec : Nat → Int32 → Int32 → Int32 → sw_S → Option sw_S) {i : Nat} (hi : n ≤ i) (hiN : i < 2000) (hk : lf = 0 → ∀ j, j < n → ∃ c w, (s j).2.2 = some c ∧ H c = some w ∧ c ≠ a) :
    ∃ σ', B_X1_renew_28 rec a x d (nI i) σ = some σ' ∧ pv_NS N P σ' (va_up H a (some (lf, s, nI n, if n = 0 then le else if lf = 0 then (pv_lb H (s 0).2.2).1 else (s 0).1, x, d))) ∧ pv_st P σ σ' := by
  have hN := h.2.2.2
  unfold B_X1_renew_28
  rw [pv_g4 h ha, Option.bind_some, if_pos (nI_le hi (by omega))]
  obtain ⟨σ1, e1, h1, t1⟩ := pv_p7 h ha d
  rw [e1, Option.bind_some]
  have ha1 := va_up_self H a (some (lf, s, nI n, le, co, d))
  obtain ⟨σ2, e2, h2, t2⟩ := pv_p6 h1 ha1 x
  rw [e2, Option.bind_some]
  rw [bx_uu] at h2
  have ha2 := va_up_self H a (some (lf, s, nI n, le, x, d))
  rw [pv_g4 h2 ha2, Option.bind_some]
  by_cases hn0 : n = 0
  · subst hn0
    rw [if_pos (by decide)]
    exact ⟨σ2, rfl, by simpa using h2, t1.tr t2⟩
  · rw [if_neg (nI_nle (by omega) (by omega)), pv_g0 h2 ha2, Option.bind_some]
    by_cases hl : lf = 0
    · rw [if_pos hl, pv_r3 h2 ha2, Option.bind_some, Option.bind_some]
      obtain ⟨c, ⟨l', s', z', e', c', d'⟩, hc1, hc2, hc3⟩ := hk hl 0 (by omega)
      have hq := pv_a3 h2 ha2 (j := 0) (by omega)
      rw [nI_0] at hq
      have hc2' : va_up H a (some (lf, s, nI n, le, x, d)) c = some (l', s', z', e', c', d') := by rw [va_up_ne _ _ hc3]; exact hc2
      rw [hq, Option.bind_some, hc1, Option.bind_some, pv_g5 h2 hc2', Option.bind_some]
      obtain ⟨σ3, e3, h3, t3⟩ := pv_p5 h2 ha2 e'
      unfold b_X1_renew_160
      rw [e3, Option.bind_some]
      refine ⟨σ3, rfl, ?_, (t1.tr t2).tr t3⟩
      rw [bx_uu] at h3
      rw [if_neg hn0, if_pos hl]
      simpa [pv_lb, hc2] using h3
    · rw [if_neg hl, pv_r1 h2 ha2, Option.bind_some, Option.bind_some]
      have hq := pv_a1 h2 ha2 (j := 0) (by omega)
      rw [nI_0] at hq
      rw [hq, Option.bind_some]
      obtain ⟨σ3, e3, h3, t3⟩ := pv_p5 h2 ha2 (s 0).1
      unfold b_X1_renew_160
      rw [e3, Option.bind_some]
      refine ⟨σ3, rfl, ?_, (t1.tr t2).tr t3⟩
      rw [bx_uu] at h3
      rw [if_neg hn0, if_neg hl]
      exact h3
theorem pv_renew_leaf (h : pv_NS N P σ H) (ha : H a = some (1, s, nI n, le, co, di)) (hn : n ≤ N) : ∀ (k i fuel : Nat), i + k = n → k < fuel →
    ∃ σ', b_X1_renew_28 fuel a (nI i) (pv_it (fun j h => pv_mix (pv_mix h (s j).1) (s j).2.1) i (pv_mix (pv_mix 1 1) (nI n))) (nI i) σ = some σ' ∧ pv_NS N P σ' (va_up H a (some (1, s, nI n, if n = 0 then le else (s 0).1, nI n, pv_leafD s n))) ∧ pv_st P σ σ' := by
  have hN := h.2.2.2
  intro k
  induction k with
  | zero =>
    intro i fuel hi hf
    obtain ⟨f, rfl⟩ : ∃ f, fuel = f + 1 := ⟨fuel - 1, by omega⟩
    obtain rfl : i = n := by omega
    obtain ⟨σ', e1, h1, t1⟩ := pv_renew_end h ha hn (nI i) (pv_leafD s i) (b_X1_renew_28 f) (i := i) (Nat.le_refl _) (by omega) (fun q => absurd q (by decide))
    refine ⟨σ', e1, ?_, t1⟩
    simpa using h1
  | succ k ih =>
    intro i fuel hi hf
    obtain ⟨f, rfl⟩ : ∃ f, fuel = f + 1 := ⟨fuel - 1, by omega⟩
    show ∃ σ', B_X1_renew_28 (b_X1_renew_28 f) a _ _ (nI i) σ = some σ' ∧ _
    unfold B_X1_renew_28
    rw [pv_g4 h ha, Option.bind_some, if_neg (nI_ge (by omega) (by omega)), pv_g0 h ha, Option.bind_some, if_neg (by decide), pv_r1 h ha, Option.bind_some, Option.bind_some, pv_a1 h ha (by omega), Option.bind_some, pv_mx, Option.bind_some, pv_r2 h ha, Option.bind_some, Option.bind_some, pv_a2 h ha (by omega), Option.bind_some, pv_mx, Option.bind_some]
    unfold b_X1_renew_111
    rw [nI_1]
    exact ih (i + 1) f (by omega) (by omega)
theorem pv_renew_inner (h : pv_NS N P σ H) (ha : H a = some (0, s, nI n, le, co, di)) (hn : n ≤ N) (hk : ∀ j, j < n → ∃ c w, (s j).2.2 = some c ∧ H c = some w ∧ c ≠ a) : ∀ (k i fuel : Nat), i + k = n → k < fuel →
    ∃ σ', b_X1_renew_28 fuel a (pv_it (fun j x => x + (pv_lb H (s j).2.2).2.2) i 0) (pv_it (fun j h => pv_lm h (pv_lb H (s j).2.2)) i (pv_mix (pv_mix 1 2) (nI n))) (nI i) σ = some σ' ∧ pv_NS N P σ' (va_up H a (some (0, s, nI n, if n = 0 then le else (pv_lb H (s 0).2.2).1, pv_innC H s n, pv_innD H s n))) ∧ pv_st P σ σ' := by
  have hN := h.2.2.2
  intro k
  induction k with
  | zero =>
    intro i fuel hi hf
    obtain ⟨f, rfl⟩ : ∃ f, fuel = f + 1 := ⟨fuel - 1, by omega⟩
    obtain rfl : i = n := by omega
    obtain ⟨σ', e1, h1, t1⟩ := pv_renew_end h ha hn (pv_innC H s i) (pv_innD H s i) (b_X1_renew_28 f) (i := i) (Nat.le_refl _) (by omega) (fun _ => hk)
    refine ⟨σ', e1, ?_, t1⟩
    simpa using h1
  | succ k ih =>
    intro i fuel hi hf
    obtain ⟨f, rfl⟩ : ∃ f, fuel = f + 1 := ⟨fuel - 1, by omega⟩
    show ∃ σ', B_X1_renew_28 (b_X1_renew_28 f) a _ _ (nI i) σ = some σ' ∧ _
    unfold B_X1_renew_28
    obtain ⟨c, ⟨l', s', z', e', c', d'⟩, hc1, hc2, hc3⟩ := hk i (by omega)
    rw [pv_g4 h ha, Option.bind_some, if_neg (nI_ge (by omega) (by omega)), pv_g0 h ha, Option.bind_some, if_pos rfl, pv_r3 h ha, Option.bind_some, Option.bind_some, pv_a3 h ha (by omega), Option.bind_some, hc1, Option.bind_some, pv_g5 h hc2, Option.bind_some, pv_mx, Option.bind_some, pv_g7 h hc2, Option.bind_some, pv_mx, Option.bind_some, pv_g6 h hc2, Option.bind_some, pv_mx, Option.bind_some, Option.bind_some]
    unfold b_X1_renew_111
    rw [nI_1]
    have hlb : pv_lb H (s i).2.2 = (e', d', c') := by simp [pv_lb, hc1, hc2]
    have := ih (i + 1) f (by omega) (by omega)
    simp only [pv_it, hlb, pv_lm] at this
    exact this
theorem pv_renewL (h : pv_NS N P σ H) (ha : H a = some (1, s, nI n, le, co, di)) (hn : n ≤ N) : ∃ σ', f_X1_renew a σ = some σ' ∧ pv_NS N P σ' (va_up H a (some (1, s, nI n, if n = 0 then le else (s 0).1, nI n, pv_leafD s n))) ∧ pv_st P σ σ' := by
  unfold f_X1_renew b_X1_renew_15
  rw [pv_g0 h ha, Option.bind_some, if_neg (by decide), pv_mx, Option.bind_some, pv_g4 h ha, Option.bind_some, pv_mx, Option.bind_some]
  have := h.2.2.2
  exact pv_renew_leaf h ha hn n 0 1000 (by omega) (by omega)
theorem pv_renewI (h : pv_NS N P σ H) (ha : H a = some (0, s, nI n, le, co, di)) (hn : n ≤ N) (hk : ∀ j, j < n → ∃ c w, (s j).2.2 = some c ∧ H c = some w ∧ c ≠ a) : ∃ σ', f_X1_renew a σ = some σ' ∧ pv_NS N P σ' (va_up H a (some (0, s, nI n, if n = 0 then le else (pv_lb H (s 0).2.2).1, pv_innC H s n, pv_innD H s n))) ∧ pv_st P σ σ' := by
  unfold f_X1_renew b_X1_renew_15
  rw [pv_g0 h ha, Option.bind_some, if_pos rfl, pv_mx, Option.bind_some, pv_g4 h ha, Option.bind_some, pv_mx, Option.bind_some]
  have := h.2.2.2
  exact pv_renew_inner h ha hn hk n 0 1000 (by omega) (by omega)
/-- the child for a key: the last of those behind whose least key is not above it -/
def pv_childF (H : pv_H) (s : pv_s) (key : Int32) : Nat → Nat → Nat
  | 0, i => i
  | k + 1, i => if key < (pv_lb H (s (i + 1)).2.2).1 then i else pv_childF H s key k (i + 1)
theorem pv_child_loop (h : pv_NS N P σ H) (ha : H a = some (lf, s, nI n, le, co, di)) (hn : n ≤ N) (hk : ∀ j, j < n → ∃ c w, (s j).2.2 = some c ∧ H c = some w) (key : Int32) : ∀ (k i fuel : Nat), i + 1 + k = n → k < fuel → b_X1_childFor_2 fuel a key (nI i) σ = some (nI (pv_childF H s key k i)) := by
  have hN := h.2.2.2
  intro k
  induction k with
  | zero =>
    intro i fuel hi hf
    obtain ⟨f, rfl⟩ : ∃ f, fuel = f + 1 := ⟨fuel - 1, by omega⟩
    show B_X1_childFor_2 (b_X1_childFor_2 f) a key (nI i) σ = _
    unfold B_X1_childFor_2
    rw [pv_g4 h ha, Option.bind_some, nI_1, if_pos (nI_le (by omega) (by omega))]
    rfl
  | succ k ih =>
    intro i fuel hi hf
    obtain ⟨f, rfl⟩ : ∃ f, fuel = f + 1 := ⟨fuel - 1, by omega⟩
    show B_X1_childFor_2 (b_X1_childFor_2 f) a key (nI i) σ = _
    unfold B_X1_childFor_2
    obtain ⟨c, ⟨l', s', z', e', c', d'⟩, hc1, hc2⟩ := hk (i + 1) (by omega)
    rw [pv_g4 h ha, Option.bind_some, nI_1, if_neg (nI_ge (by omega) (by omega)), pv_r3 h ha, Option.bind_some, Option.bind_some, pv_a3 h ha (by omega), Option.bind_some, hc1, Option.bind_some, pv_g5 h hc2, Option.bind_some]
    have hlb : (pv_lb H (s (i + 1)).2.2).1 = e' := by simp [pv_lb, hc1, hc2]
    simp only [pv_childF, hlb]
    by_cases hc : key < e'
    · rw [if_pos hc, if_pos hc]; rfl
    · rw [if_neg hc, if_neg hc]
      exact ih (i + 1) f (by omega) (by omega)
theorem pv_childFor (h : pv_NS N P σ H) (ha : H a = some (lf, s, nI n, le, co, di)) (hn : n ≤ N) (h0 : 0 < n) (hk : ∀ j, j < n → ∃ c w, (s j).2.2 = some c ∧ H c = some w) (key : Int32) : f_X1_childFor a key σ = some (nI (pv_childF H s key (n - 1) 0)) :=
  pv_child_loop h ha hn hk key (n - 1) 0 1000 (by omega) (by have := h.2.2.2; omega)
/-- all from slot i on goes to the end of another node -/
def pv_app (s' : pv_s) (n' : Nat) (s : pv_s) (i k : Nat) : pv_s := fun j => if n' ≤ j ∧ j < n' + k then s (i + (j - n')) else s' j
theorem pv_tail_loop {b : Nat} {lf' le' co' di' : Int32} {i : Nat} (hab : a ≠ b) : ∀ (k j fuel : Nat) {σ : sw_S} {H : pv_H} {s' : pv_s} {n' : Nat}, pv_NS N P σ H → H a = some (lf, s, nI n, le, co, di) → H b = some (lf', s', nI n', le', co', di') → n ≤ N → j + k = n → n' + k ≤ N → i ≤ n → k < fuel → (∀ j c, j < n → (s j).2.2 = some c → ∃ w, H c = some w) →
    ∃ σ', b_X1_moveTail_2 fuel a (nI i) b (nI j) σ = some σ' ∧ pv_NS N P σ' (va_up (va_up H b (some (lf', pv_app s' n' s j k, nI (n' + k), le', co', di'))) a (some (lf, s, nI i, le, co, di))) ∧ pv_st P σ σ' := by
  intro k
  induction k with
  | zero =>
    intro j fuel σ H s' n' h ha hb hn hj hn' hi hf hk
    obtain ⟨f, rfl⟩ : ∃ f, fuel = f + 1 := ⟨fuel - 1, by omega⟩
    have hN := h.2.2.2
    show ∃ σ', B_X1_moveTail_2 (b_X1_moveTail_2 f) a (nI i) b (nI j) σ = some σ' ∧ _
    unfold B_X1_moveTail_2
    rw [pv_g4 h ha, Option.bind_some, if_pos (nI_le (by omega) (by omega))]
    obtain ⟨σ1, e1, h1, t1⟩ := pv_p4 h ha (nI i)
    rw [e1, Option.bind_some]
    refine ⟨σ1, rfl, ?_, t1⟩
    have e2 : va_up H b (some (lf', pv_app s' n' s j 0, nI (n' + 0), le', co', di')) = H := by
      funext c
      by_cases hc : c = b
      · subst hc
        rw [va_up_self, hb]
        congr 3
        funext q
        unfold pv_app
        rw [if_neg (by omega)]
      · rw [va_up_ne _ _ hc]
    rw [e2]; exact h1
  | succ k ih =>
    intro j fuel σ H s' n' h ha hb hn hj hn' hi hf hk
    obtain ⟨f, rfl⟩ : ∃ f, fuel = f + 1 := ⟨fuel - 1, by omega⟩
    have hN := h.2.2.2
    show ∃ σ', B_X1_moveTail_2 (b_X1_moveTail_2 f) a (nI i) b (nI j) σ = some σ' ∧ _
    unfold B_X1_moveTail_2
    rw [pv_g4 h ha, Option.bind_some, if_neg (nI_ge (by omega) (by omega)), pv_g4 h hb, Option.bind_some, pv_ob h ha, Option.bind_some]
    obtain ⟨σ1, e1, h1, t1⟩ := pv_copySlot h ha hb (i := j) (j := n') (by omega) (by omega) (fun c hc => hk j c (by omega) hc)
    rw [e1, Option.bind_some]
    have hb1 := va_up_self H b (some (lf', va_up s' n' (s j), nI n', le', co', di'))
    rw [pv_g4 h1 hb1, Option.bind_some, nI_1]
    obtain ⟨σ2, e2, h2, t2⟩ := pv_p4 h1 hb1 (nI (n' + 1))
    rw [e2, Option.bind_some, nI_1]
    rw [bx_uu] at h2
    have hb2 := va_up_self H b (some (lf', va_up s' n' (s j), nI (n' + 1), le', co', di'))
    have ha2 : va_up H b (some (lf', va_up s' n' (s j), nI (n' + 1), le', co', di')) a = some (lf, s, nI n, le, co, di) := by rw [va_up_ne _ _ hab]; exact ha
    obtain ⟨σ3, e3, h3, t3⟩ := ih (j + 1) f h2 ha2 hb2 hn (by omega) (by omega) hi (by omega) (fun q c hq hc => by
      obtain ⟨w, hw⟩ := hk q c hq hc
      by_cases hcb : c = b
      · subst hcb; exact ⟨_, va_up_self _ _ _⟩
      · exact ⟨w, by rw [va_up_ne _ _ hcb]; exact hw⟩)
    refine ⟨σ3, e3, ?_, (t1.tr t2).tr t3⟩
    rw [bx_uu] at h3
    have he : pv_app (va_up s' n' (s j)) (n' + 1) s (j + 1) k = pv_app s' n' s j (k + 1) := by
      funext q
      unfold pv_app
      by_cases hq : n' + 1 ≤ q ∧ q < n' + 1 + k
      · rw [if_pos hq, if_pos (by omega)]
        congr 1; omega
      · rw [if_neg hq]
        by_cases hq2 : q = n'
        · subst hq2
          rw [va_up_self, if_pos (by omega)]
          congr 1; omega
        · rw [va_up_ne _ _ hq2, if_neg (by omega)]
    rw [he, show n' + 1 + k = n' + (k + 1) by omega] at h3
    exact h3
theorem pv_moveTail {b : Nat} {lf' le' co' di' : Int32} {s' : pv_s} {n' i : Nat} (hab : a ≠ b) (h : pv_NS N P σ H) (ha : H a = some (lf, s, nI n, le, co, di)) (hb : H b = some (lf', s', nI n', le', co', di')) (hn : n ≤ N) (hi : i ≤ n) (hn' : n' + (n - i) ≤ N) (hk : ∀ j c, j < n → (s j).2.2 = some c → ∃ w, H c = some w) :
    ∃ σ', f_X1_moveTail a (nI i) b σ = some σ' ∧ pv_NS N P σ' (va_up (va_up H b (some (lf', pv_app s' n' s i (n - i), nI (n' + (n - i)), le', co', di'))) a (some (lf, s, nI i, le, co, di))) ∧ pv_st P σ σ' := by
  unfold f_X1_moveTail
  have hN := h.2.2.2
  exact pv_tail_loop hab (n - i) i 1000 h ha hb hn (by omega) hn' hi (by omega) hk
theorem pv_moveSlot {b : Nat} {lf' le' co' di' : Int32} {s' : pv_s} {n' i j : Nat} (hab : a ≠ b) (h : pv_NS N P σ H) (ha : H a = some (lf, s, nI n, le, co, di)) (hb : H b = some (lf', s', nI n', le', co', di')) (hn : n ≤ N) (hi : i < n) (hn' : n' < N) (hj : j ≤ n') (hk : ∀ j c, j < n → (s j).2.2 = some c → ∃ w, H c = some w) (hk' : ∀ j c, j < n' → (s' j).2.2 = some c → ∃ w, H c = some w) :
    ∃ σ', f_X1_moveSlot a (nI i) b (nI j) σ = some σ' ∧ pv_NS N P σ' (va_up (va_up H b (some (lf', va_up (pv_open s' n' j) j (s i), nI (n' + 1), le', co', di'))) a (some (lf, pv_close s n i, nI (n - 1), le, co, di))) ∧ pv_st P σ σ' := by
  unfold f_X1_moveSlot
  rw [pv_ob h hb, Option.bind_some]
  obtain ⟨σ1, e1, h1, t1⟩ := pv_openSlot h hb hn' hj hk'
  rw [e1, Option.bind_some]
  have hb1 := va_up_self H b (some (lf', pv_open s' n' j, nI (n' + 1), le', co', di'))
  have ha1 : va_up H b (some (lf', pv_open s' n' j, nI (n' + 1), le', co', di')) a = some (lf, s, nI n, le, co, di) := by rw [va_up_ne _ _ hab]; exact ha
  have up1 : ∀ (V : pv_V) (c : Nat), (∃ w, H c = some w) → ∃ w, va_up H b (some V) c = some w := fun V c ⟨w, hw⟩ => by
    by_cases hcb : c = b
    · subst hcb; exact ⟨_, va_up_self _ _ _⟩
    · exact ⟨w, by rw [va_up_ne _ _ hcb]; exact hw⟩
  rw [pv_ob h1 ha1, Option.bind_some]
  obtain ⟨σ2, e2, h2, t2⟩ := pv_copySlot h1 ha1 hb1 (i := i) (j := j) (by omega) (by omega) (fun c hc => up1 _ c (hk i c hi hc))
  rw [e2, Option.bind_some]
  rw [bx_uu] at h2
  have ha2 : va_up H b (some (lf', va_up (pv_open s' n' j) j (s i), nI (n' + 1), le', co', di')) a = some (lf, s, nI n, le, co, di) := by rw [va_up_ne _ _ hab]; exact ha
  rw [pv_ob h2 ha2, Option.bind_some]
  obtain ⟨σ3, e3, h3, t3⟩ := pv_closeSlot h2 ha2 hn hi (fun q c hq hc => up1 _ c (hk q c hq hc))
  rw [e3, Option.bind_some]
  exact ⟨σ3, rfl, h3, (t1.tr t2).tr t3⟩
end RN
