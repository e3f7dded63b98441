/-! NODE METHODS over coordinates: what changes is told point by point -/
def cp_k (H : pv_H) (A : Nat → Nat → Nat) (l f n : Nat) : Prop := 0 < l → ∀ j, j < n → ∃ w, H (A (l - 1) (f + j)) = some w
section CN
variable {N : Nat} {P : Nat → Prop} {σ : sw_S} {H : pv_H} {A : Nat → Nat → Nat} {Ek Ev : Nat → Int32} {Lb : cp_L} {a l f n : Nat} {b : Int32 × Int32 × Int32}
theorem cp_q.kid {s : pv_s} (h : ∀ j, j < n → cp_q A Ek Ev l (f + j) (s j)) (hk : cp_k H A l f n) : ∀ j c, j < n → (s j).2.2 = some c → ∃ w, H c = some w := by
  intro j c hj hc
  rcases Nat.eq_zero_or_pos l with h0 | h0
  · rw [(h j hj).1 h0] at hc; cases hc
  · rw [(h j hj).2 h0] at hc
    cases hc
    exact hk h0 j hj
theorem cp_q.cast {A' : Nat → Nat → Nat} {Ek' Ev' : Nat → Int32} {x y : Nat} {q : Int32 × Int32 × Option Nat} (h : cp_q A Ek Ev l x q) (hE : l = 0 → Ek' y = Ek x ∧ Ev' y = Ev x) (hA : 0 < l → A' (l - 1) y = A (l - 1) x) : cp_q A' Ek' Ev' l y q :=
  ⟨fun h0 => by rw [h.1 h0, (hE h0).1, (hE h0).2], fun h0 => by rw [h.2 h0, hA h0]⟩
theorem cp_q.ix {x y : Nat} {q : Int32 × Int32 × Option Nat} (h : cp_q A Ek Ev l x q) (e : x = y) : cp_q A Ek Ev l y q := e ▸ h
theorem cp_renew (h : pv_NS N P σ H) (hx : cp_n H a A Ek Ev l f n b) (hn : n ≤ N) (hk : 0 < l → ∀ j, j < n → (∃ w, H (A (l - 1) (f + j)) = some w) ∧ A (l - 1) (f + j) ≠ a ∧ pv_lb H (some (A (l - 1) (f + j))) = Lb (l - 1) (f + j)) :
    ∃ σ' H', f_X1_renew a σ = some σ' ∧ pv_NS N P σ' H' ∧ pv_st P σ σ' ∧ (∀ y, y ≠ a → H' y = H y) ∧ cp_n H' a A Ek Ev l f n (cp_w Ek Ev Lb l f n b.1) := by
  obtain ⟨s, h1, h3, h2⟩ := hx
  cases l with
  | zero =>
    rw [if_pos rfl] at h1
    obtain ⟨σ', e, q1, q2⟩ := pv_renewL h h1 hn
    refine ⟨σ', _, e, q1, q2, fun y hy => va_up_ne _ _ hy, s, ?_, h3, h2⟩
    rw [va_up_self, if_pos rfl]
    have e1 : pv_leafD s n = pv_it (fun j h => pv_mix (pv_mix h (Ek (f + j))) (Ev (f + j))) n (pv_mix (pv_mix 1 1) (nI n)) := pv_it_congr (fun j hj y => by rw [(h2 j hj).1 rfl])
    have e2 : (if n = 0 then b.1 else (s 0).1) = if n = 0 then b.1 else Ek f := by
      by_cases hz : n = 0
      · rw [if_pos hz, if_pos hz]
      · rw [if_neg hz, if_neg hz, (h2 0 (by omega)).1 rfl]; rfl
    rw [e1, e2]; rfl
  | succ l =>
    rw [if_neg (by omega)] at h1
    have hk' := hk (by omega)
    simp only [Nat.add_sub_cancel] at hk'
    have hs : ∀ j, j < n → (s j).2.2 = some (A l (f + j)) := fun j hj => (h2 j hj).2 (by omega)
    obtain ⟨σ', e, q1, q2⟩ := pv_renewI h h1 hn (fun j hj => ⟨A l (f + j), (hk' j hj).1.choose, hs j hj, (hk' j hj).1.choose_spec, (hk' j hj).2.1⟩)
    refine ⟨σ', _, e, q1, q2, fun y hy => va_up_ne _ _ hy, s, ?_, h3, h2⟩
    rw [va_up_self, if_neg (by omega : ¬ l + 1 = 0)]
    have e1 : pv_innD H s n = pv_it (fun j h => pv_lm h (Lb l (f + j))) n (pv_mix (pv_mix 1 2) (nI n)) := pv_it_congr (fun j hj y => by rw [hs j hj, (hk' j hj).2.2])
    have e3 : pv_innC H s n = pv_it (fun j x => x + (Lb l (f + j)).2.2) n 0 := pv_it_congr (fun j hj y => by rw [hs j hj, (hk' j hj).2.2])
    have e2 : (if n = 0 then b.1 else (pv_lb H (s 0).2.2).1) = if n = 0 then b.1 else (Lb l f).1 := by
      by_cases hz : n = 0
      · rw [if_pos hz, if_pos hz]
      · rw [if_neg hz, if_neg hz, hs 0 (by omega), (hk' 0 (by omega)).2.2]; rfl
    rw [e1, e2, e3]; rfl
theorem cp_tail {a' f' n' i : Nat} {b' : Int32 × Int32 × Int32} (h : pv_NS N P σ H) (ha : cp_n H a A Ek Ev l f n b) (hb : cp_n H a' A Ek Ev l f' n' b') (hab : a ≠ a') (hn : n ≤ N) (hi : i ≤ n) (hn' : n' + (n - i) ≤ N) (hf : f' + n' = f + i) (hk : cp_k H A l f n) :
    ∃ σ' H', f_X1_moveTail a (nI i) a' σ = some σ' ∧ pv_NS N P σ' H' ∧ pv_st P σ σ' ∧ (∀ y, y ≠ a → y ≠ a' → H' y = H y) ∧ cp_n H' a A Ek Ev l f i b ∧ cp_n H' a' A Ek Ev l f' (n' + (n - i)) b' := by
  obtain ⟨s, h1, h3, h2⟩ := ha
  obtain ⟨s', g1, g3, g2⟩ := hb
  obtain ⟨σ', e, q1, q2⟩ := pv_moveTail hab h h1 g1 hn hi hn' (cp_q.kid h2 hk)
  refine ⟨σ', _, e, q1, q2, fun y hy hy' => by rw [va_up_ne _ _ hy, va_up_ne _ _ hy'], ⟨s, va_up_self _ _ _, h3, fun j hj => h2 j (by omega)⟩, ⟨_, by rw [va_up_ne _ _ (Ne.symm hab), va_up_self], fun h0 j => by unfold pv_app; split <;> first | exact h3 h0 _ | exact g3 h0 _, fun j hj => ?_⟩⟩
  unfold pv_app
  by_cases hj2 : j < n'
  · rw [if_neg (by omega)]; exact g2 j hj2
  · rw [if_pos (by omega)]
    exact (h2 (i + (j - n')) (by omega)).ix (by omega)
theorem cp_slotL {a' f' n' : Nat} {b' : Int32 × Int32 × Int32} (h : pv_NS N P σ H) (ha : cp_n H a A Ek Ev l f n b) (hb : cp_n H a' A Ek Ev l f' n' b') (hab : a ≠ a') (hn : n ≤ N) (h0 : 0 < n) (hn' : n' < N) (hf : f' = f + n) (hk : cp_k H A l f n) (hk' : cp_k H A l f' n') :
    ∃ σ' H', f_X1_moveSlot a (nI (n - 1)) a' (nI 0) σ = some σ' ∧ pv_NS N P σ' H' ∧ pv_st P σ σ' ∧ (∀ y, y ≠ a → y ≠ a' → H' y = H y) ∧ cp_n H' a A Ek Ev l f (n - 1) b ∧ cp_n H' a' A Ek Ev l (f' - 1) (n' + 1) b' := by
  obtain ⟨s, h1, h3, h2⟩ := ha
  obtain ⟨s', g1, g3, g2⟩ := hb
  obtain ⟨σ', e, q1, q2⟩ := pv_moveSlot hab h h1 g1 hn (i := n - 1) (j := 0) (by omega) hn' (by omega) (cp_q.kid h2 hk) (cp_q.kid g2 hk')
  refine ⟨σ', _, e, q1, q2, fun y hy hy' => by rw [va_up_ne _ _ hy, va_up_ne _ _ hy'], ⟨_, va_up_self _ _ _, fun h0 j => by unfold pv_close; split <;> exact h3 h0 _, fun j hj => ?_⟩, ⟨_, by rw [va_up_ne _ _ (Ne.symm hab), va_up_self], fun h0 j => by unfold va_up pv_open; split <;> (try split) <;> first | exact h3 h0 _ | exact g3 h0 _, fun j hj => ?_⟩⟩
  · unfold pv_close; rw [if_neg (by omega)]; exact h2 j (by omega)
  · by_cases hj0 : j = 0
    · subst hj0; rw [va_up_self]; exact (h2 (n - 1) (by omega)).ix (by omega)
    · rw [va_up_ne _ _ hj0]; unfold pv_open; rw [if_pos (by omega)]; exact (g2 (j - 1) (by omega)).ix (by omega)
theorem cp_slotR {a' f' n' : Nat} {b' : Int32 × Int32 × Int32} (h : pv_NS N P σ H) (ha : cp_n H a A Ek Ev l f n b) (hb : cp_n H a' A Ek Ev l f' n' b') (hab : a ≠ a') (hn : n ≤ N) (h0 : 0 < n) (hn' : n' < N) (hf : f = f' + n') (hk : cp_k H A l f n) (hk' : cp_k H A l f' n') :
    ∃ σ' H', f_X1_moveSlot a (nI 0) a' (nI n') σ = some σ' ∧ pv_NS N P σ' H' ∧ pv_st P σ σ' ∧ (∀ y, y ≠ a → y ≠ a' → H' y = H y) ∧ cp_n H' a A Ek Ev l (f + 1) (n - 1) b ∧ cp_n H' a' A Ek Ev l f' (n' + 1) b' := by
  obtain ⟨s, h1, h3, h2⟩ := ha
  obtain ⟨s', g1, g3, g2⟩ := hb
  obtain ⟨σ', e, q1, q2⟩ := pv_moveSlot hab h h1 g1 hn (i := 0) (j := n') (by omega) hn' (by omega) (cp_q.kid h2 hk) (cp_q.kid g2 hk')
  refine ⟨σ', _, e, q1, q2, fun y hy hy' => by rw [va_up_ne _ _ hy, va_up_ne _ _ hy'], ⟨_, va_up_self _ _ _, fun h0 j => by unfold pv_close; split <;> exact h3 h0 _, fun j hj => ?_⟩, ⟨_, by rw [va_up_ne _ _ (Ne.symm hab), va_up_self], fun h0 j => by unfold va_up pv_open; split <;> (try split) <;> first | exact h3 h0 _ | exact g3 h0 _, fun j hj => ?_⟩⟩
  · unfold pv_close; rw [if_pos (by omega)]; exact (h2 (j + 1) (by omega)).ix (by omega)
  · by_cases hj0 : j = n'
    · subst hj0; rw [va_up_self]; exact (h2 0 (by omega)).ix (by omega)
    · rw [va_up_ne _ _ hj0]; unfold pv_open; rw [if_neg (by omega)]; exact g2 j (by omega)
/-- a slot for a new child behind slot q -/
theorem cp_ochild {q a' : Nat} {A' : Nat → Nat → Nat} (h : pv_NS N P σ H) (ha : cp_n H a A Ek Ev (l + 1) f n b) (hn : n < N) (hq : q < n) (hk : cp_k H A (l + 1) f n) (hc : ∃ w, H a' = some w) (hA : ∀ j, j < n + 1 → A' l (f + j) = if j ≤ q then A l (f + j) else if j = q + 1 then a' else A l (f + (j - 1))) :
    ∃ σ1, f_X1_openSlot a (nI (q + 1)) σ = some σ1 ∧ sw_gR 1 a 3 σ1 = some (some (a + 3)) ∧ ∃ σ' H', sw_qs (a + 3) (nI (q + 1)) (some a') σ1 = some σ' ∧ pv_NS N P σ' H' ∧ pv_st P σ σ' ∧ (∀ y, y ≠ a → H' y = H y) ∧ cp_n H' a A' Ek Ev (l + 1) f (n + 1) b := by
  obtain ⟨s, h1, h3, h2⟩ := ha
  obtain ⟨σ1, e1, q1, t1⟩ := pv_openSlot h h1 hn (i := q + 1) (by omega) (cp_q.kid h2 hk)
  have ha1 := va_up_self H a (some ((if l + 1 = 0 then 1 else 0), pv_open s n (q + 1), nI (n + 1), b.1, b.2.2, b.2.1))
  obtain ⟨σ2, e2, q2, t2⟩ := pv_w3 q1 ha1 (j := q + 1) (by omega) (r := some a') (fun c hc' => by
    cases hc'
    by_cases hy : a' = a
    · subst hy; exact ⟨_, ha1⟩
    · rw [va_up_ne _ _ hy]; exact hc)
  refine ⟨σ1, e1, pv_r3 q1 ha1, σ2, _, e2, q2, t1.tr t2, fun y hy => by rw [va_up_ne _ _ hy, va_up_ne _ _ hy], _, va_up_self _ _ _, fun h0 => absurd h0 (by omega), fun j hj => ⟨fun h0 => absurd h0 (by omega), fun _ => ?_⟩⟩
  simp only [Nat.add_sub_cancel]
  rw [hA j hj]
  by_cases hj1 : j ≤ q
  · rw [if_pos hj1, va_up_ne _ _ (by omega)]; unfold pv_open; rw [if_neg (by omega)]
    exact (h2 j (by omega)).2 (by omega)
  · rw [if_neg hj1]
    by_cases hj2 : j = q + 1
    · subst hj2; rw [if_pos rfl, va_up_self]
    · rw [if_neg hj2, va_up_ne _ _ hj2]; unfold pv_open; rw [if_pos (by omega)]
      exact (h2 (j - 1) (by omega)).2 (by omega)
theorem cp_cchild {q : Nat} {A' : Nat → Nat → Nat} (h : pv_NS N P σ H) (ha : cp_n H a A Ek Ev (l + 1) f n b) (hn : n ≤ N) (hq : q < n) (hk : cp_k H A (l + 1) f n) (hA : ∀ j, j < n - 1 → A' l (f + j) = if j < q then A l (f + j) else A l (f + (j + 1))) :
    ∃ σ' H', f_X1_closeSlot a (nI q) σ = some σ' ∧ pv_NS N P σ' H' ∧ pv_st P σ σ' ∧ (∀ y, y ≠ a → H' y = H y) ∧ cp_n H' a A' Ek Ev (l + 1) f (n - 1) b := by
  obtain ⟨s, h1, h3, h2⟩ := ha
  obtain ⟨σ1, e1, q1, t1⟩ := pv_closeSlot h h1 hn hq (cp_q.kid h2 hk)
  refine ⟨σ1, _, e1, q1, t1, fun y hy => va_up_ne _ _ hy, _, va_up_self _ _ _, fun h0 => absurd h0 (by omega), fun j hj => ⟨fun h0 => absurd h0 (by omega), fun _ => ?_⟩⟩
  simp only [Nat.add_sub_cancel]
  rw [hA j hj]
  unfold pv_close
  by_cases hj1 : j < q
  · rw [if_pos hj1, if_neg (by omega)]; exact (h2 j (by omega)).2 (by omega)
  · rw [if_neg hj1, if_pos (by omega)]; exact (h2 (j + 1) (by omega)).2 (by omega)
theorem cp_cleaf {q : Nat} (h : pv_NS N P σ H) (ha : cp_n H a A Ek Ev 0 f n b) (hn : n ≤ N) (hq : q < n) :
    ∃ σ' H', f_X1_closeSlot a (nI q) σ = some σ' ∧ pv_NS N P σ' H' ∧ pv_st P σ σ' ∧ (∀ y, y ≠ a → H' y = H y) ∧ cp_n H' a A (pv_ed Ek (f + q)) (pv_ed Ev (f + q)) 0 f (n - 1) b := by
  obtain ⟨s, h1, h3, h2⟩ := ha
  obtain ⟨σ1, e1, q1, t1⟩ := pv_closeSlot h h1 hn hq (cp_q.kid h2 (fun h0 => absurd h0 (by omega)))
  refine ⟨σ1, _, e1, q1, t1, fun y hy => va_up_ne _ _ hy, _, va_up_self _ _ _, fun h0 j => by unfold pv_close; split <;> exact h3 rfl _, fun j hj => ⟨fun _ => ?_, fun h0 => absurd h0 (by omega)⟩⟩
  unfold pv_close pv_ed
  by_cases hj1 : j < q
  · rw [if_neg (by omega), if_pos (by omega), if_pos (by omega)]; exact (h2 j (by omega)).1 rfl
  · rw [if_pos (by omega), if_neg (by omega), if_neg (by omega)]; exact (h2 (j + 1) (by omega)).1 rfl
theorem cp_no3 {s : pv_s} {q : Nat} (h : ∀ j, (s j).2.2 = none) : ∀ j, (pv_open s n q j).2.2 = none := fun j => by unfold pv_open; split <;> exact h _
theorem cp_no2 {s : pv_s} {q : Nat} {x : Int32} (h : ∀ j, (s j).2.2 = none) : ∀ j, (va_up s q (x, (s q).2) j).2.2 = none := fun j => by unfold va_up; split <;> exact h _
theorem cp_no {s : pv_s} {q : Nat} {x : Int32} (h : ∀ j, (s j).2.2 = none) : ∀ j, (va_up s q ((s q).1, x, (s q).2.2) j).2.2 = none := fun j => by unfold va_up; split <;> exact h _
theorem cp_oleaf {q : Nat} (key v : Int32) (h : pv_NS N P σ H) (ha : cp_n H a A Ek Ev 0 f n b) (hn : n < N) (hq : q ≤ n) :
    ∃ σ1, f_X1_openSlot a (nI q) σ = some σ1 ∧ sw_gR 1 a 1 σ1 = some (some (a + 1)) ∧ ∃ σ2, sw_as 0 (a + 1) (nI q) key σ1 = some σ2 ∧ sw_gR 1 a 2 σ2 = some (some (a + 2)) ∧ ∃ σ' H', sw_as 0 (a + 2) (nI q) v σ2 = some σ' ∧ pv_NS N P σ' H' ∧ pv_st P σ σ' ∧ (∀ y, y ≠ a → H' y = H y) ∧ cp_n H' a A (pv_ei Ek (f + q) key) (pv_ei Ev (f + q) v) 0 f (n + 1) b := by
  obtain ⟨s, h1, h3, h2⟩ := ha
  obtain ⟨σ1, e1, q1, t1⟩ := pv_openSlot h h1 hn hq (cp_q.kid h2 (fun h0 => absurd h0 (by omega)))
  have ha1 := va_up_self H a (some ((if 0 = 0 then 1 else 0), pv_open s n q, nI (n + 1), b.1, b.2.2, b.2.1))
  obtain ⟨σ2, e2, q2, t2⟩ := pv_w1 q1 ha1 (j := q) (by omega) key
  rw [bx_uu] at q2
  have ha2 := va_up_self H a (some ((if 0 = 0 then 1 else 0), va_up (pv_open s n q) q (key, (pv_open s n q q).2), nI (n + 1), b.1, b.2.2, b.2.1))
  obtain ⟨σ3, e3, q3, t3⟩ := pv_w2 q2 ha2 (j := q) (by omega) v
  rw [bx_uu] at q3
  refine ⟨σ1, e1, pv_r1 q1 ha1, σ2, e2, pv_r2 q2 ha2, σ3, _, e3, q3, (t1.tr t2).tr t3, fun y hy => va_up_ne _ _ hy, _, va_up_self _ _ _, fun h0 j => cp_no (cp_no2 (cp_no3 (h3 rfl))) j, fun j hj => ⟨fun _ => ?_, fun h0 => absurd h0 (by omega)⟩⟩
  unfold pv_ei
  by_cases hj1 : j = q
  · subst hj1
    rw [va_up_self, va_up_self, if_neg (by omega), if_pos rfl, if_neg (by omega), if_pos rfl]
    simp only
    congr 2
    exact cp_no3 (h3 rfl) j
  · rw [va_up_ne _ _ hj1, va_up_ne _ _ hj1]
    unfold pv_open
    by_cases hj2 : j < q
    · rw [if_neg (by omega), if_pos (by omega), if_pos (by omega)]; exact (h2 j (by omega)).1 rfl
    · rw [if_pos (by omega), if_neg (by omega), if_neg (by omega), if_neg (by omega), if_neg (by omega)]
      have := (h2 (j - 1) (by omega)).1 rfl
      rw [show f + j - 1 = f + (j - 1) by omega]; exact this
end CN
