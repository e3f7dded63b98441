/-! THE CLASS READS A PROOF -/
theorem ps_lf_get (f : Nat → Int32) (p : Nat) : ∀ z j (h : j < (ps_lf f p z).length), (ps_lf f p z)[j] = (f (p + 2 * j), f (p + 2 * j + 1), 0) := by
  intro z
  induction z with
  | zero => intro j h; simp [ps_lf] at h
  | succ z ih =>
    intro j h
    simp only [ps_lf]
    have hl := ps_lf_len f p z
    by_cases q : j < z
    · rw [List.getElem_append_left (by omega)]; exact ih j (by omega)
    · have : j = z := by
        have h' := h
        rw [ps_lf_len] at h'; omega
      subst this
      rw [List.getElem_append_right (by omega)]
      simp [hl]
def ck_ot (x po F : Nat) (f : Nat → Int32) (T : Nat) (σ : sw_S) (K : List ps_K) (C : List (Nat × Nat)) (run : Option (Int32 × sw_S)) (o : Option ps_R) : Prop := match o with
  | some R => ∃ σ', run = some (1, σ') ∧ ck x po F f T σ' R.1 (K ++ R.2.1) (C ++ R.2.2.2.1) R.2.2.2.2 ∧ ck_fr x σ σ'
  | none => ∃ σ', run = some (0, σ') ∧ ck_any x po F f T σ' ∧ ck_fr x σ σ'
section CKR
variable {x po F : Nat} {f : Nat → Int32} {T : Nat}
theorem ck.s7 {σ : sw_S} {p : Nat} {K : List ps_K} {C : List (Nat × Nat)} {b : Int32 × Int32 × Int32} (hx : po + 1 < x) (h : ck x po F f T σ p K C b) : sw_gI 0 x 7 σ = some (nI p) ∧ ∃ σ', sw_pt 0 x 7 (.int (nI (p + 1))) σ = some σ' ∧ ck x po F f T σ' (p + 1) K C b ∧ ck_fr x σ σ' := by
  obtain ⟨fk, fn, fl, fb, fe, h1, h2, h3, ht⟩ := h
  obtain ⟨σ1, e1, o1, t1⟩ := h1.p7 (nI (p + 1))
  exact ⟨h1.g7, σ1, e1, ⟨fk, fn, fl, fb, fe, o1, h2, h3, ht.fr hx t1⟩, t1⟩
theorem ck.s10 {σ : sw_S} {p : Nat} {K : List ps_K} {C : List (Nat × Nat)} {b : Int32 × Int32 × Int32} (hx : po + 1 < x) (h : ck x po F f T σ p K C b) (v : Int32) : ∃ σ', sw_pt 0 x 10 (.int v) σ = some σ' ∧ ck x po F f T σ' p K C (v, b.2) ∧ ck_fr x σ σ' := by
  obtain ⟨fk, fn, fl, fb, fe, h1, h2, h3, ht⟩ := h
  obtain ⟨σ1, e1, o1, t1⟩ := h1.p10 v
  exact ⟨σ1, e1, ⟨fk, fn, fl, fb, fe, o1, h2, h3, ht.fr hx t1⟩, t1⟩
theorem ck.s11 {σ : sw_S} {p : Nat} {K : List ps_K} {C : List (Nat × Nat)} {b : Int32 × Int32 × Int32} (hx : po + 1 < x) (h : ck x po F f T σ p K C b) (v : Int32) : ∃ σ', sw_pt 0 x 11 (.int v) σ = some σ' ∧ ck x po F f T σ' p K C (b.1, v, b.2.2) ∧ ck_fr x σ σ' := by
  obtain ⟨fk, fn, fl, fb, fe, h1, h2, h3, ht⟩ := h
  obtain ⟨σ1, e1, o1, t1⟩ := h1.p11 v
  exact ⟨σ1, e1, ⟨fk, fn, fl, fb, fe, o1, h2, h3, ht.fr hx t1⟩, t1⟩
theorem ck.s12 {σ : sw_S} {p : Nat} {K : List ps_K} {C : List (Nat × Nat)} {b : Int32 × Int32 × Int32} (hx : po + 1 < x) (h : ck x po F f T σ p K C b) (v : Int32) : ∃ σ', sw_pt 0 x 12 (.int v) σ = some σ' ∧ ck x po F f T σ' p K C (b.1, b.2.1, v) ∧ ck_fr x σ σ' := by
  obtain ⟨fk, fn, fl, fb, fe, h1, h2, h3, ht⟩ := h
  obtain ⟨σ1, e1, o1, t1⟩ := h1.p12 v
  exact ⟨σ1, e1, ⟨fk, fn, fl, fb, fe, o1, h2, h3, ht.fr hx t1⟩, t1⟩
theorem ck.gs {σ : sw_S} {p : Nat} {K : List ps_K} {C : List (Nat × Nat)} {b : Int32 × Int32 × Int32} (h : ck x po F f T σ p K C b) : sw_gI 0 x 0 σ = some (nI F) ∧ sw_gI 0 x 7 σ = some (nI p) ∧ sw_gI 0 x 8 σ = some (nI K.length) ∧ sw_gI 0 x 10 σ = some b.1 ∧ sw_gI 0 x 11 σ = some b.2.1 ∧ sw_gI 0 x 12 σ = some b.2.2 ∧ sw_gR 0 x 1 σ = some (some po) ∧ sw_gR 0 x 2 σ = some (some (x + 1)) ∧ ck_t po f T σ ∧ sw_gI 0 x 9 σ = some (nI C.length) := by
  obtain ⟨fk, fn, fl, fb, fe, h1, h2, h3, ht⟩ := h
  exact ⟨h1.g0, h1.g7, h1.g8, h1.g10, h1.g11, h1.g12, h1.r1, h1.r2, ht, h1.g9⟩
theorem ck.key {σ : sw_S} {p : Nat} {K : List ps_K} {C : List (Nat × Nat)} {b : Int32 × Int32 × Int32} (h : ck x po F f T σ p K C b) {i : Nat} (hi : i < K.length) (hK : K.length ≤ 120) : sw_al 0 (x + 1) (nI i) σ = some K[i].1 := by
  obtain ⟨fk, fn, fl, fb, fe, h1, h2, h3, ht⟩ := h
  rw [h1.l1 (by omega), (h2 i hi).1]
theorem ck_ent (hx : po + 1 < x) (hT : T ≤ 240) {K : List ps_K} {C : List (Nat × Nat)} {p z : Nat} (hz : z ≤ 5) (hK : K.length + z ≤ 120) (hp : p + 2 * z ≤ T) : ∀ (r j fuel : Nat) {σ : sw_S} {b : Int32 × Int32 × Int32}, j + r = z → r < fuel → ck x po F f T σ (p + 2 * j) (K ++ ps_lf f p j) C b →
    ∃ σ', b_X0_readEntries_30 fuel x (nI z) (nI K.length) (pv_it (fun j h => pv_mix (pv_mix h (f (p + 2 * j))) (f (p + 2 * j + 1))) j (pv_mix (pv_mix 1 1) (nI z))) (nI j) σ = some (1, σ') ∧ ck x po F f T σ' (p + 2 * z) (K ++ ps_lf f p z) C (ps_ll f p z) ∧ ck_fr x σ σ' := by
  intro r
  induction r with
  | zero =>
    intro j fuel σ b hj hf h
    obtain ⟨fu, rfl⟩ : ∃ fu, fuel = fu + 1 := ⟨fuel - 1, by omega⟩
    obtain rfl : j = z := by omega
    obtain ⟨σ1, σ2, σ3, e1, e2, e3, c3, t3⟩ := h.lb hx (if j = 0 then 0 else f p) (nI j) (pv_it (fun j h => pv_mix (pv_mix h (f (p + 2 * j))) (f (p + 2 * j + 1))) j (pv_mix (pv_mix 1 1) (nI j)))
    refine ⟨σ3, ?_, c3, t3⟩
    show B_X0_readEntries_30 _ _ _ _ _ _ _ = _
    unfold B_X0_readEntries_30
    rw [if_pos (nI_le (Nat.le_refl _) (by omega))]
    by_cases q : j = 0
    · rw [if_pos q] at e1
      rw [if_pos (by rw [q]; decide)]
      unfold b_X0_readEntries_90
      rw [e1, Option.bind_some, e2, Option.bind_some, e3, Option.bind_some]
    · rw [if_neg q] at e1
      have hl : K.length < (K ++ ps_lf f p j).length := by rw [List.length_append, ps_lf_len]; omega
      have hk := h.key hl (by rw [List.length_append, ps_lf_len]; omega)
      have hg : (K ++ ps_lf f p j)[K.length].1 = f p := by
        rw [List.getElem_append_right (Nat.le_refl _)]
        simp only [Nat.sub_self]
        rw [ps_lf_get]; rfl
      rw [hg] at hk
      rw [if_neg (nI_nle (by omega) (by omega)), h.gs.2.2.2.2.2.2.2.1, Option.bind_some, Option.bind_some, hk, Option.bind_some]
      unfold b_X0_readEntries_90
      rw [e1, Option.bind_some, e2, Option.bind_some, e3, Option.bind_some]
  | succ r ih =>
    intro j fuel σ b hj hf h
    obtain ⟨fu, rfl⟩ : ∃ fu, fuel = fu + 1 := ⟨fuel - 1, by omega⟩
    obtain ⟨σ1, e1, c1, t1⟩ := h.nx hx (by omega) hT
    obtain ⟨σ2, e2, c2, t2⟩ := c1.nx hx (by omega) hT
    obtain ⟨σ3, e3, c3, t3⟩ := c2.nt hx (by rw [List.length_append, ps_lf_len]; omega) (f (p + 2 * j)) (f (p + 2 * j + 1)) 0 (Or.inl rfl)
    obtain ⟨L0, q0⟩ := h.ob
    obtain ⟨L1, q1⟩ := c1.ob
    obtain ⟨L2, q2⟩ := c2.ob
    have c3' : ck x po F f T σ3 (p + 2 * (j + 1)) (K ++ ps_lf f p (j + 1)) C b := by
      have := c3
      rw [List.append_assoc] at this
      exact this
    obtain ⟨σ4, e4, c4, t4⟩ := ih (j + 1) fu (by omega) (by omega) c3'
    refine ⟨σ4, ?_, c4, ((t1.tr t2).tr t3).tr t4⟩
    show B_X0_readEntries_30 _ _ _ _ _ _ _ = _
    unfold B_X0_readEntries_30
    rw [if_neg (nI_ge (by omega) (by omega)), q0, Option.bind_some, e1, cw_b2, q1, Option.bind_some, e2, cw_b2, q2, Option.bind_some, e3, Option.bind_some, pv_mx, Option.bind_some, pv_mx, Option.bind_some, nI_1]
    exact e4
theorem ck_entries (hx : po + 1 < x) (hT : T ≤ 240) {σ : sw_S} {b : Int32 × Int32 × Int32} {K : List ps_K} {C : List (Nat × Nat)} {p z : Nat} (hz : z ≤ 5) (hK : T < p + 2 * z ∨ K.length + z ≤ 120) (hp : p ≤ T) (h : ck x po F f T σ p K C b) :
    if T < p + 2 * z then f_X0_readEntries x (nI z) σ = some (0, σ) else ∃ σ', f_X0_readEntries x (nI z) σ = some (1, σ') ∧ ck x po F f T σ' (p + 2 * z) (K ++ ps_lf f p z) C (ps_ll f p z) ∧ ck_fr x σ σ' := by
  obtain ⟨L0, q0⟩ := h.ob
  have hm := h.hm hp hT (q := 2 * z) (by omega)
  have h2 : (2 * nI z : Int32) = nI (2 * z) := pk_mul 2 z
  by_cases c : T < p + 2 * z
  · rw [if_pos c]
    unfold f_X0_readEntries
    rw [q0, Option.bind_some, h2, hm, Option.bind_some, if_pos c, if_pos rfl]
  · rw [if_neg c]
    obtain ⟨σ', e, c1, t1⟩ := ck_ent hx hT hz (hK.resolve_left c) (by omega) z 0 1000 (by omega) (by omega) (b := b) (C := C) (K := K) (p := p) (by simpa [ps_lf] using h)
    refine ⟨σ', ?_, c1, t1⟩
    unfold f_X0_readEntries
    rw [q0, Option.bind_some, h2, hm, Option.bind_some, if_neg c, if_neg (by decide), h.gs.2.2.1, Option.bind_some, pv_mx, Option.bind_some, pv_mx, Option.bind_some]
    exact e
theorem ck_left (hx : po + 1 < x) (hT : T ≤ 240) {σ : sw_S} {b : Int32 × Int32 × Int32} {K : List ps_K} {C : List (Nat × Nat)} {p dp : Nat} (hdp : dp ≤ 6) (hK : K.length < 120 ∨ T < p + 4) (hp : p ≤ T) (h : ck x po F f T σ p K C b) :
    (T < p + 4 → f_X0_readLeftOut x (nI dp) σ = some (0, σ)) ∧ (¬ T < p + 4 → ∃ σ', f_X0_readLeftOut x (nI dp) σ = some ((if f (p + 3) < 1 then 0 else 1), σ') ∧ ck x po F f T σ' (p + 4) (K ++ [(f (p + 1), f (p + 3), 1)]) C (f (p + 1), f (p + 2), f (p + 3)) ∧ ck_fr x σ σ') := by
  obtain ⟨L0, q0⟩ := h.ob
  have hm := h.hm hp hT (q := 4) (by omega)
  have hd : ¬ (6 : Int32) < nI dp := nI_nlt (show dp ≤ 6 from hdp) (by decide)
  refine ⟨fun c => ?_, fun c => ?_⟩
  · unfold f_X0_readLeftOut
    rw [if_neg hd, q0, Option.bind_some]
    rw [show (4 : Int32) = nI 4 from rfl, hm, Option.bind_some, if_pos c, if_pos rfl]; rfl
  · obtain ⟨g7, σ1, e1, c1, t1⟩ := h.s7 hx
    obtain ⟨σ2, e2, c2, t2⟩ := c1.nx hx (by omega) hT
    obtain ⟨σ3, e3, c3, t3⟩ := c2.s10 hx (f (p + 1))
    obtain ⟨σ4, e4, c4, t4⟩ := c3.nx hx (by omega) hT
    obtain ⟨σ5, e5, c5, t5⟩ := c4.s11 hx (f (p + 1 + 1))
    obtain ⟨σ6, e6, c6, t6⟩ := c5.nx hx (by omega) hT
    obtain ⟨σ7, e7, c7, t7⟩ := c6.s12 hx (f (p + 1 + 1 + 1))
    obtain ⟨σ8, e8, c8, t8⟩ := c7.nt hx (hK.resolve_right c) (f (p + 1)) (f (p + 1 + 1 + 1)) 1 (Or.inr rfl)
    obtain ⟨L1, q1⟩ := c1.ob
    obtain ⟨L3, q3⟩ := c3.ob
    obtain ⟨L5, q5⟩ := c5.ob
    obtain ⟨L7, q7⟩ := c7.ob
    refine ⟨σ8, ?_, c8, ((((((t1.tr t2).tr t3).tr t4).tr t5).tr t6).tr t7).tr t8⟩
    unfold f_X0_readLeftOut
    rw [if_neg hd, q0, Option.bind_some]
    rw [show (4 : Int32) = nI 4 from rfl, hm, Option.bind_some, if_neg c, if_neg (by decide), g7, Option.bind_some, nI_1, e1, Option.bind_some, q1, Option.bind_some, e2, cw_b2, e3, Option.bind_some, q3, Option.bind_some, e4, cw_b2, e5, Option.bind_some, q5, Option.bind_some, e6, cw_b2, e7, Option.bind_some, c7.gs.2.2.2.1, Option.bind_some, c7.gs.2.2.2.2.2.1, Option.bind_some, q7, Option.bind_some, e8, Option.bind_some, c8.gs.2.2.2.2.2.1, Option.bind_some]
    by_cases c9 : f (p + 3) < 1
    · rw [if_pos c9, if_pos (show f (p + 1 + 1 + 1) < 1 from c9)]; rfl
    · rw [if_neg c9, if_neg (show ¬ f (p + 1 + 1 + 1) < 1 from c9)]; rfl
theorem ps_c_none {g : Nat → Nat → Nat → Option ps_R} {n k i : Nat} {s : ps_S} (h : ps_c f g n k s i = none) : ∀ m, ps_c f g n k s (i + m) = none := by
  intro m
  induction m with
  | zero => exact h
  | succ m ih => show (ps_c f g n k s (i + m)).bind _ = none; rw [ih]; rfl
end CKR
