/-! NODE'S METHODS ON THE MAP -/
def pv_slotF (s : pv_s) (key : Int32) : Nat → Nat → Nat
  | 0, i => i
  | k + 1, i => if key ≤ (s i).1 then i else pv_slotF s key k (i + 1)
section NO
variable {N : Nat} {P : Nat → Prop} {σ : sw_S} {H : pv_H} {a : Nat} {lf le co di : Int32} {s : pv_s} {n : Nat}
theorem pv_slot_loop (h : pv_NS N P σ H) (ha : H a = some (lf, s, nI n, le, co, di)) (hn : n ≤ N) (key : Int32) : ∀ (k i fuel : Nat), i + k = n → k < fuel → b_X1_slotOf_2 fuel a key (nI i) σ = some (nI (pv_slotF s key k i)) := by
  have hN := h.2.2.2
  intro k
  induction k with
  | zero =>
    intro i fuel hi hf
    obtain ⟨f, rfl⟩ : ∃ f, fuel = f + 1 := ⟨fuel - 1, by omega⟩
    show B_X1_slotOf_2 (b_X1_slotOf_2 f) a key (nI i) σ = _
    unfold B_X1_slotOf_2
    rw [pv_g4 h ha, Option.bind_some, if_pos (nI_le (by omega) (by omega))]
    rfl
  | succ k ih =>
    intro i fuel hi hf
    obtain ⟨f, rfl⟩ : ∃ f, fuel = f + 1 := ⟨fuel - 1, by omega⟩
    show B_X1_slotOf_2 (b_X1_slotOf_2 f) a key (nI i) σ = _
    unfold B_X1_slotOf_2
    rw [pv_g4 h ha, Option.bind_some, if_neg (nI_ge (by omega) (by omega)), pv_r1 h ha, Option.bind_some, Option.bind_some, pv_a1 h ha (by omega), Option.bind_some]
    simp only [pv_slotF]
    by_cases hc : key ≤ (s i).1
    · rw [if_pos hc, if_pos hc]; rfl
    · rw [if_neg hc, if_neg hc, nI_1]
      exact ih (i + 1) f (by omega) (by omega)
theorem pv_slotOf (h : pv_NS N P σ H) (ha : H a = some (lf, s, nI n, le, co, di)) (hn : n ≤ N) (key : Int32) : f_X1_slotOf a key σ = some (nI (pv_slotF s key n 0)) :=
  pv_slot_loop h ha hn key n 0 1000 (by omega) (by have := h.2.2.2; omega)
theorem pv_slotF_le (s : pv_s) (key : Int32) : ∀ (k i : Nat), i ≤ pv_slotF s key k i ∧ pv_slotF s key k i ≤ i + k ∧ (∀ j, i ≤ j → j < pv_slotF s key k i → ¬ key ≤ (s j).1) ∧ (pv_slotF s key k i < i + k → key ≤ (s (pv_slotF s key k i)).1) := by
  intro k
  induction k with
  | zero => intro i; simp only [pv_slotF]; exact ⟨Nat.le_refl _, Nat.le_refl _, fun j h1 h2 => by omega, fun h => by omega⟩
  | succ k ih =>
    intro i
    simp only [pv_slotF]
    by_cases hc : key ≤ (s i).1
    · rw [if_pos hc]; exact ⟨Nat.le_refl _, by omega, fun j h1 h2 => by omega, fun _ => hc⟩
    · rw [if_neg hc]
      obtain ⟨h1, h2, h3, h4⟩ := ih (i + 1)
      refine ⟨by omega, by omega, fun j q1 q2 => ?_, fun q => h4 (by omega)⟩
      by_cases hj : j = i
      · subst hj; exact hc
      · exact h3 j (by omega) q2
theorem pv_hasAt (h : pv_NS N P σ H) (ha : H a = some (lf, s, nI n, le, co, di)) (hn : n ≤ N) {i : Nat} (hi : i ≤ n) (key : Int32) : f_X1_hasAt a (nI i) key σ = some (if i < n ∧ (s i).1 = key then 1 else 0) := by
  have hN := h.2.2.2
  unfold f_X1_hasAt
  rw [pv_g4 h ha, Option.bind_some]
  by_cases hlt : i < n
  · rw [if_neg (nI_ge hlt (by omega)), pv_r1 h ha, Option.bind_some, Option.bind_some, pv_a1 h ha (by omega), Option.bind_some]
    by_cases hk : (s i).1 = key
    · rw [if_pos hk, if_pos ⟨hlt, hk⟩]; rfl
    · rw [if_neg hk, if_neg (fun q => hk q.2)]; rfl
  · rw [if_pos (nI_le (by omega) (by omega)), if_neg (fun q => hlt q.1)]; rfl
/-- one slot is copied: from slot i of a to slot j of b -/
theorem pv_copySlot {b : Nat} {lf' le' co' di' sz sz' : Int32} {s' : pv_s} (h : pv_NS N P σ H) (ha : H a = some (lf, s, sz, le, co, di)) (hb : H b = some (lf', s', sz', le', co', di')) {i j : Nat} (hi : i < N) (hj : j < N) (hk : ∀ c, (s i).2.2 = some c → ∃ w, H c = some w) :
    ∃ σ', f_X1_copySlot a (nI i) b (nI j) σ = some σ' ∧ pv_NS N P σ' (va_up H b (some (lf', va_up s' j (s i), sz', le', co', di'))) ∧ pv_st P σ σ' := by
  unfold f_X1_copySlot
  rw [pv_r1 h hb, Option.bind_some, pv_r1 h ha, Option.bind_some, Option.bind_some, pv_a1 h ha hi, Option.bind_some, Option.bind_some]
  obtain ⟨σ1, e1, h1, t1⟩ := pv_w1 h hb hj (s i).1
  rw [e1, Option.bind_some]
  -- what a and b are now
  generalize hH1 : va_up H b (some (lf', va_up s' j ((s i).1, (s' j).2), sz', le', co', di')) = H1 at h1
  have hb1 : H1 b = some (lf', va_up s' j ((s i).1, (s' j).2), sz', le', co', di') := by rw [← hH1, va_up_self]
  obtain ⟨s1, ha1, hs1⟩ : ∃ s1, H1 a = some (lf, s1, sz, le, co, di) ∧ (s1 i).2 = (s i).2 := by
    by_cases hab : a = b
    · subst hab
      rw [ha] at hb; cases hb
      refine ⟨_, hb1, ?_⟩
      by_cases hij : i = j <;> simp [va_up, hij]
    · exact ⟨s, by rw [← hH1, va_up_ne _ _ hab]; exact ha, rfl⟩
  rw [pv_r2 h1 hb1, Option.bind_some, pv_r2 h1 ha1, Option.bind_some, Option.bind_some, pv_a2 h1 ha1 hi, Option.bind_some, Option.bind_some, hs1]
  obtain ⟨σ2, e2, h2, t2⟩ := pv_w2 h1 hb1 hj (s i).2.1
  rw [e2, Option.bind_some]
  generalize hH2 : va_up H1 b (some (lf', va_up (va_up s' j ((s i).1, (s' j).2)) j ((va_up s' j ((s i).1, (s' j).2) j).1, (s i).2.1, (va_up s' j ((s i).1, (s' j).2) j).2.2), sz', le', co', di')) = H2 at h2
  have hb2 : H2 b = some (lf', va_up s' j ((s i).1, (s i).2.1, (s' j).2.2), sz', le', co', di') := by
    rw [← hH2, va_up_self, va_up_self]
    congr 3
    funext k
    by_cases hk : k = j <;> simp [va_up, hk]
  obtain ⟨s2, ha2, hs2⟩ : ∃ s2, H2 a = some (lf, s2, sz, le, co, di) ∧ (s2 i).2.2 = (s i).2.2 := by
    by_cases hab : a = b
    · subst hab
      rw [ha] at hb; cases hb
      refine ⟨_, hb2, ?_⟩
      by_cases hij : i = j <;> simp [va_up, hij]
    · exact ⟨s1, by rw [← hH2, va_up_ne _ _ hab]; exact ha1, by rw [hs1]⟩
  rw [pv_r3 h2 hb2, Option.bind_some, pv_r3 h2 ha2, Option.bind_some, Option.bind_some, pv_a3 h2 ha2 hi, Option.bind_some, Option.bind_some, hs2]
  obtain ⟨σ3, e3, h3, t3⟩ := pv_w3 h2 hb2 hj (r := (s i).2.2) (fun c hc => by
    obtain ⟨w, hw⟩ := hk c hc
    by_cases hcb : c = b
    · subst hcb; exact ⟨_, hb2⟩
    · exact ⟨w, by rw [← hH2, va_up_ne _ _ hcb, ← hH1, va_up_ne _ _ hcb]; exact hw⟩)
  rw [e3, Option.bind_some]
  refine ⟨σ3, rfl, ?_, (t1.tr t2).tr t3⟩
  have he : va_up H2 b (some (lf', va_up (va_up s' j ((s i).1, (s i).2.1, (s' j).2.2)) j ((va_up s' j ((s i).1, (s i).2.1, (s' j).2.2) j).1, (va_up s' j ((s i).1, (s i).2.1, (s' j).2.2) j).2.1, (s i).2.2), sz', le', co', di')) = va_up H b (some (lf', va_up s' j (s i), sz', le', co', di')) := by
    funext c
    by_cases hc : c = b
    · subst hc
      simp only [va_up_self]
      congr 3
      funext k
      by_cases hk : k = j <;> simp [va_up, hk]
    · rw [va_up_ne _ _ hc, va_up_ne _ _ hc, ← hH2, va_up_ne _ _ hc, ← hH1, va_up_ne _ _ hc]
  rw [← he]
  exact h3
/-- the slots when one is opened at i (n of them before), closed at i -/
def pv_open (s : pv_s) (n i : Nat) : pv_s := fun j => if i < j ∧ j ≤ n then s (j - 1) else s j
def pv_close (s : pv_s) (n i : Nat) : pv_s := fun j => if i ≤ j ∧ j + 1 < n then s (j + 1) else s j
theorem pv_open_loop {i : Nat} : ∀ (k m fuel : Nat) {σ : sw_S} {H : pv_H} {s : pv_s}, pv_NS N P σ H → H a = some (lf, s, nI n, le, co, di) → n < N → i + k = m → m ≤ n → k < fuel → (∀ j c, j < n → (s j).2.2 = some c → ∃ w, H c = some w) →
    ∃ σ', b_X1_openSlot_5 fuel a (nI i) (nI m) σ = some σ' ∧ pv_NS N P σ' (va_up H a (some (lf, pv_open s m i, nI (n + 1), le, co, di))) ∧ pv_st P σ σ' := by
  intro k
  induction k with
  | zero =>
    intro m fuel σ H s h ha hn hm hmn hf hk
    obtain ⟨f, rfl⟩ : ∃ f, fuel = f + 1 := ⟨fuel - 1, by omega⟩
    have hN := h.2.2.2
    show ∃ σ', B_X1_openSlot_5 (b_X1_openSlot_5 f) a (nI i) (nI m) σ = some σ' ∧ _
    unfold B_X1_openSlot_5
    rw [if_pos (nI_le (by omega) (by omega)), pv_g4 h ha, Option.bind_some, nI_1]
    obtain ⟨σ1, e1, h1, t1⟩ := pv_p4 h ha (nI (n + 1))
    rw [e1]
    refine ⟨σ1, rfl, ?_, t1⟩
    have : pv_open s m i = s := by
      funext j
      unfold pv_open
      rw [if_neg (by omega)]
    rw [this]; exact h1
  | succ k ih =>
    intro m fuel σ H s h ha hn hm hmn hf hk
    obtain ⟨f, rfl⟩ : ∃ f, fuel = f + 1 := ⟨fuel - 1, by omega⟩
    have hN := h.2.2.2
    show ∃ σ', B_X1_openSlot_5 (b_X1_openSlot_5 f) a (nI i) (nI m) σ = some σ' ∧ _
    unfold B_X1_openSlot_5
    obtain ⟨m', rfl⟩ : ∃ m', m = m' + 1 := ⟨m - 1, by omega⟩
    rw [if_neg (nI_ge (by omega) (by omega)), pv_ob h ha, Option.bind_some, nI_pred, pk_m1]
    obtain ⟨σ1, e1, h1, t1⟩ := pv_copySlot h ha ha (i := m') (j := m' + 1) (by omega) (by omega) (fun c hc => hk m' c (by omega) hc)
    rw [e1, Option.bind_some]
    obtain ⟨σ2, e2, h2, t2⟩ := ih m' f h1 (va_up_self _ _ _) hn (by omega) (by omega) (by omega) (fun j c hj hc => by
      have : ∃ j', j' < n ∧ (s j').2.2 = some c := by
        by_cases hjm : j = m' + 1
        · subst hjm; rw [va_up_self] at hc; exact ⟨m', by omega, hc⟩
        · rw [va_up_ne _ _ hjm] at hc; exact ⟨j, hj, hc⟩
      obtain ⟨j', q1, q2⟩ := this
      obtain ⟨w, hw⟩ := hk j' c q1 q2
      by_cases hca : c = a
      · subst hca; exact ⟨_, va_up_self _ _ _⟩
      · exact ⟨w, by rw [va_up_ne _ _ hca]; exact hw⟩)
    refine ⟨σ2, e2, ?_, t1.tr t2⟩
    have he : pv_open (va_up s (m' + 1) (s m')) m' i = pv_open s (m' + 1) i := by
      funext j
      unfold pv_open
      by_cases hj : i < j ∧ j ≤ m'
      · rw [if_pos hj, if_pos (by omega), va_up_ne _ _ (by omega)]
      · rw [if_neg hj]
        by_cases hj2 : j = m' + 1
        · subst hj2; rw [va_up_self, if_pos (by omega)]; rfl
        · rw [va_up_ne _ _ hj2, if_neg (by omega)]
    rw [he] at h2
    have hu : va_up (va_up H a (some (lf, va_up s (m' + 1) (s m'), nI n, le, co, di))) a (some (lf, pv_open s (m' + 1) i, nI (n + 1), le, co, di)) = va_up H a (some (lf, pv_open s (m' + 1) i, nI (n + 1), le, co, di)) := bx_uu _ _ _ _
    rw [hu] at h2
    exact h2
theorem pv_openSlot {i : Nat} (h : pv_NS N P σ H) (ha : H a = some (lf, s, nI n, le, co, di)) (hn : n < N) (hi : i ≤ n) (hk : ∀ j c, j < n → (s j).2.2 = some c → ∃ w, H c = some w) :
    ∃ σ', f_X1_openSlot a (nI i) σ = some σ' ∧ pv_NS N P σ' (va_up H a (some (lf, pv_open s n i, nI (n + 1), le, co, di))) ∧ pv_st P σ σ' := by
  unfold f_X1_openSlot
  rw [pv_g4 h ha, Option.bind_some]
  have hN := h.2.2.2
  exact pv_open_loop (n - i) n 1000 h ha hn (by omega) (Nat.le_refl _) (by omega) hk
theorem pv_close_loop : ∀ (k m fuel : Nat) {σ : sw_S} {H : pv_H} {s : pv_s}, pv_NS N P σ H → H a = some (lf, s, nI n, le, co, di) → n ≤ N → m + k = n → 0 < m → k < fuel → (∀ j c, j < n → (s j).2.2 = some c → ∃ w, H c = some w) →
    ∃ σ', b_X1_closeSlot_4 fuel a (nI m) σ = some σ' ∧ pv_NS N P σ' (va_up H a (some (lf, pv_close s n (m - 1), nI (n - 1), le, co, di))) ∧ pv_st P σ σ' := by
  intro k
  induction k with
  | zero =>
    intro m fuel σ H s h ha hn hm h0 hf hk
    obtain ⟨f, rfl⟩ : ∃ f, fuel = f + 1 := ⟨fuel - 1, by omega⟩
    have hN := h.2.2.2
    show ∃ σ', B_X1_closeSlot_4 (b_X1_closeSlot_4 f) a (nI m) σ = some σ' ∧ _
    unfold B_X1_closeSlot_4
    obtain ⟨n', rfl⟩ : ∃ n', n = n' + 1 := ⟨n - 1, by omega⟩
    rw [pv_g4 h ha, Option.bind_some, if_pos (nI_le (by omega) (by omega)), Option.bind_some, nI_pred]
    obtain ⟨σ1, e1, h1, t1⟩ := pv_p4 h ha (nI n')
    rw [e1]
    refine ⟨σ1, rfl, ?_, t1⟩
    have : pv_close s (n' + 1) (m - 1) = s := by
      funext j
      unfold pv_close
      rw [if_neg (by omega)]
    rw [this]; exact h1
  | succ k ih =>
    intro m fuel σ H s h ha hn hm h0 hf hk
    obtain ⟨f, rfl⟩ : ∃ f, fuel = f + 1 := ⟨fuel - 1, by omega⟩
    have hN := h.2.2.2
    show ∃ σ', B_X1_closeSlot_4 (b_X1_closeSlot_4 f) a (nI m) σ = some σ' ∧ _
    unfold B_X1_closeSlot_4
    obtain ⟨m', rfl⟩ : ∃ m', m = m' + 1 := ⟨m - 1, by omega⟩
    rw [pv_g4 h ha, Option.bind_some, if_neg (nI_ge (by omega) (by omega)), pv_ob h ha, Option.bind_some, nI_pred, nI_1]
    obtain ⟨σ1, e1, h1, t1⟩ := pv_copySlot h ha ha (i := m' + 1) (j := m') (by omega) (by omega) (fun c hc => hk (m' + 1) c (by omega) hc)
    rw [e1, Option.bind_some]
    obtain ⟨σ2, e2, h2, t2⟩ := ih (m' + 1 + 1) f h1 (va_up_self _ _ _) hn (by omega) (by omega) (by omega) (fun j c hj hc => by
      have : ∃ j', j' < n ∧ (s j').2.2 = some c := by
        by_cases hjm : j = m'
        · subst hjm; rw [va_up_self] at hc; exact ⟨j + 1, by omega, hc⟩
        · rw [va_up_ne _ _ hjm] at hc; exact ⟨j, hj, hc⟩
      obtain ⟨j', q1, q2⟩ := this
      obtain ⟨w, hw⟩ := hk j' c q1 q2
      by_cases hca : c = a
      · subst hca; exact ⟨_, va_up_self _ _ _⟩
      · exact ⟨w, by rw [va_up_ne _ _ hca]; exact hw⟩)
    refine ⟨σ2, e2, ?_, t1.tr t2⟩
    have he : pv_close (va_up s m' (s (m' + 1))) n (m' + 1 + 1 - 1) = pv_close s n (m' + 1 - 1) := by
      funext j
      unfold pv_close
      simp only [Nat.add_sub_cancel]
      by_cases hj : m' + 1 ≤ j ∧ j + 1 < n
      · rw [if_pos hj, if_pos (by omega), va_up_ne _ _ (by omega)]
      · rw [if_neg hj]
        by_cases hj2 : j = m'
        · subst hj2; rw [va_up_self, if_pos (by omega)]
        · rw [va_up_ne _ _ hj2, if_neg (by omega)]
    rw [he, bx_uu] at h2
    exact h2
theorem pv_closeSlot {i : Nat} (h : pv_NS N P σ H) (ha : H a = some (lf, s, nI n, le, co, di)) (hn : n ≤ N) (hi : i < n) (hk : ∀ j c, j < n → (s j).2.2 = some c → ∃ w, H c = some w) :
    ∃ σ', f_X1_closeSlot a (nI i) σ = some σ' ∧ pv_NS N P σ' (va_up H a (some (lf, pv_close s n i, nI (n - 1), le, co, di))) ∧ pv_st P σ σ' := by
  unfold f_X1_closeSlot
  have hN := h.2.2.2
  rw [nI_1]
  exact pv_close_loop (n - (i + 1)) (i + 1) 1000 h ha hn (by omega) (by omega) (by omega) hk
end NO
