/-! THE CLASS'S CHECKER: answers -/
theorem ps_cl {f : Nat → Int32} {T F : Nat} (hF : F ≤ 5) : ∀ (d : Nat) {r : Bool} {up n k p : Nat} {R : ps_R}, ps f T F d r up n k p = some R → ∀ c, c ∈ R.2.2.2.1 → k ≤ c.1 ∧ c.1 < c.2 ∧ c.2 ≤ k + R.2.1.length := by
  intro d
  induction d with
  | zero => intro r up n k p R h; cases h
  | succ d ih =>
    intro r up n k p R h
    obtain ⟨h0, h⟩ := ps_inv hF h
    rcases h with ⟨-, -, q3, -, rfl⟩ | ⟨z, -, -, q3, q4, q5, rfl⟩ | ⟨z, s, -, -, q3, q4, q5, rfl⟩
    · intro c hc; cases hc
    · intro c hc; cases hc
    · have hcn : ∀ i s, ps_c f (fun n' k' p' => ps f T F d false n n' k' p') n k (p + 2, [], [], [], (0, pv_mix (pv_mix 1 2) (nI z), 0)) i = some s → ∀ c, c ∈ s.2.2.2.1 → k ≤ c.1 ∧ c.1 < c.2 ∧ c.2 ≤ k + s.2.1.length := by
        intro i
        induction i with
        | zero => intro s hs c hc; cases hs; cases hc
        | succ i ihi =>
          intro s hs c hc
          obtain ⟨s1, r1, e1, e2, rfl⟩ := ps_c_inv hs
          have a1 := ihi s1 e1
          have a2 := ih e2
          have a3 := (ps_len hF d e2).2.2.2.2 rfl
          simp only [ps_st, List.length_append] at hc ⊢
          rcases List.mem_append.mp hc with hc | hc
          · rcases List.mem_append.mp hc with hc | hc
            · have := a1 c hc; omega
            · have := a2 c hc; omega
          · by_cases q : f s1.1 = 0
            · rw [if_pos q] at hc; cases hc
            · rw [if_neg q] at hc
              have := List.mem_singleton.mp hc
              subst this
              show k ≤ k + s1.2.1.length ∧ k + s1.2.1.length < k + s1.2.1.length + r1.2.1.length ∧ _
              omega
      exact hcn z s q5
/-- the whole token row read -/
def ps0 (f : Nat → Int32) (T F : Nat) : Option ps_R := ps f T F 6 true 0 0 0 0
def pc_ok (T : Nat) (w a b cn : Int32) (R : ps_R) : Prop := R.1 = T ∧ R.2.2.2.2.2.1 = w ∧ kr R.2.1 ∧ kO a b cn R.2.1 ∧ kS a b cn R.2.1 R.2.2.2.1
section CKA
variable {x po F : Nat} {f : Nat → Int32} {T : Nat}
theorem ck_accepts (hx : po + 1 < x) (hT : T ≤ 240) (hF : F ≤ 5) {σ : sw_S} {qu : Nat} {w a b cn : Int32} (h : ck_any x po F f T σ) (hqx : qu < x ∨ x + 5 < qu) (hq : σ.2 qu = some (.inr (4, [.int a, .int b, .int cn]))) :
    (∃ σ' R, f_X0_accepts x w qu σ = some (1, σ') ∧ ps0 f T F = some R ∧ pc_ok T w a b cn R ∧ ck x po F f T σ' R.1 R.2.1 R.2.2.2.1 R.2.2.2.2 ∧ ck_fr x σ σ') ∨ (∃ σ', f_X0_accepts x w qu σ = some (0, σ') ∧ ck_any x po F f T σ' ∧ ck_fr x σ σ' ∧ ∀ R, ps0 f T F = some R → ¬ pc_ok T w a b cn R) := by
  obtain ⟨v7, v8, v9, v10, v11, v12, fk, fn, fl, fb, fe, o, t⟩ := h
  obtain ⟨σ1, e1, o1, t1⟩ := o.p7 0
  obtain ⟨σ3, e3, o3, t3⟩ := o1.p8 0
  obtain ⟨σ5, e5, o5, t5⟩ := o3.p9 0
  have tt := (t1.tr t3).tr t5
  have hc : ck x po F f T σ5 0 [] [] (v10, v11, v12) := ⟨fk, fn, fl, fb, fe, o5, fun i hi => absurd hi (Nat.not_lt_zero i), fun i hi => absurd hi (Nat.not_lt_zero i), t.fr hx tt⟩
  have hn : ck_ot x po F f T σ5 [] [] (f_X0_readNode 8 x 1 σ5) (ps f T F 6 true 0 0 0 0) := ck_node hx hT hF 6 8 (up := 0) (n := 0) (by decide) (by decide) hc (by simp) (Nat.zero_le T) (fun q => absurd q (by decide))
  unfold f_X0_accepts
  rw [e1, Option.bind_some, e3, Option.bind_some, e5, Option.bind_some, o5.ob, Option.bind_some]
  cases hps : ps f T F 6 true 0 0 0 0 with
  | none =>
    rw [hps] at hn
    obtain ⟨σ', q1, q2, q3⟩ := hn
    right
    rw [q1, cw_b2, if_pos rfl]
    refine ⟨σ', rfl, q2, tt.tr q3, fun R g => ?_⟩
    unfold ps0 at g
    rw [hps] at g; cases g
  | some R =>
    rw [hps] at hn
    obtain ⟨σ', q1, q2, q3⟩ := hn
    simp only [List.nil_append] at q2
    have hps' : ps0 f T F = some R := hps
    have hno : ∀ (_ : ¬ pc_ok T w a b cn R), ∀ R', ps0 f T F = some R' → ¬ pc_ok T w a b cn R' := by
      intro g R' g1
      rw [hps'] at g1; cases g1; exact g
    obtain ⟨l1, l2, l3, l4, -⟩ := ps_len hF 6 hps
    have hK : R.2.1.length ≤ 120 := by omega
    have hC : R.2.2.2.1.length ≤ 120 := by omega
    have hq' : σ'.2 qu = some (.inr (4, [.int a, .int b, .int cn])) := by rw [(tt.tr q3).2 _ hqx]; exact hq
    have hb : ∀ c, c ∈ R.2.2.2.1 → c.1 < R.2.1.length ∧ c.2 ≤ R.2.1.length := fun c hc => by
      have := ps_cl hF 6 hps c hc
      omega
    obtain ⟨g0, g7, g8, g10, g11, g12, r1, r2, gt, g9⟩ := q2.gs
    obtain ⟨L0, ob⟩ := q2.ob
    rw [q1, cw_b2, if_neg (by decide), g7, Option.bind_some, r1, Option.bind_some, Option.bind_some, gt.g1, Option.bind_some]
    by_cases c1 : R.1 = T
    · rw [if_pos (by rw [c1]), g11, Option.bind_some]
      by_cases c2 : R.2.2.2.2.2.1 = w
      · rw [if_pos c2, ob, Option.bind_some]
        have e27 : f_X0_keysRise x σ' = b_X0_keysRise_2 1000 x (nI 1) σ' := rfl
        have e32 : f_X0_leftOutFits x qu σ' = b_X0_leftOutFits_2 1000 x qu (nI 0) σ' := rfl
        have e37 : f_X0_shownFits x qu σ' = b_X0_shownFits_2 1000 x qu (nI 0) σ' := rfl
        rw [e27, e32, e37]
        rcases ck_rise q2 hK 120 1 1000 (by omega) (by omega) (by omega) (by omega) with ⟨d1, d2⟩ | ⟨d1, d2⟩
        · rw [d1, Option.bind_some, if_neg (by decide), Option.bind_some]
          rcases ck_outs q2 hK hq' 120 0 1000 (by omega) (by omega) (by omega) with ⟨d3, d4⟩ | ⟨d3, d4⟩
          · rw [d3, Option.bind_some, if_neg (by decide), Option.bind_some]
            rcases ck_shown q2 hK hC hb hq' 120 0 1000 (by omega) (by omega) (by omega) with ⟨d5, d6⟩ | ⟨d5, d6⟩
            · rw [d5, Option.bind_some, if_neg (by decide)]
              left
              refine ⟨σ', R, rfl, hps', ⟨c1, c2, d2, fun i hi => d4 i (Nat.zero_le i) hi, fun c hc => ?_⟩, q2, tt.tr q3⟩
              obtain ⟨j, hj, rfl⟩ := List.getElem_of_mem hc
              exact d6 j (Nat.zero_le j) hj
            · rw [d5, Option.bind_some, if_pos rfl]
              right
              exact ⟨σ', rfl, q2.any, tt.tr q3, hno fun g => d6 fun j _ hj => g.2.2.2.2 _ (List.getElem_mem hj)⟩
          · rw [d3, Option.bind_some, if_pos rfl]
            right
            exact ⟨σ', rfl, q2.any, tt.tr q3, hno fun g => d4 fun j _ hj => g.2.2.2.1 j hj⟩
        · rw [d1, Option.bind_some, if_pos rfl]
          right
          exact ⟨σ', rfl, q2.any, tt.tr q3, hno fun g => d2 g.2.2.1⟩
      · rw [if_neg c2]
        right
        exact ⟨σ', rfl, q2.any, tt.tr q3, hno fun g => c2 g.2.1⟩
    · rw [if_neg (fun g => c1 ((nI_eq (by omega) (by omega)).mp g))]
      right
      exact ⟨σ', rfl, q2.any, tt.tr q3, hno fun g => c1 g.1⟩
/-- the rows' cells -/
def cr (w : Nat) (σ : sw_S) (n : Nat) (rk rv : Nat → Int32) : Prop := σ.2 w = some (.inr (5, [.ref (w + 1), .ref (w + 2), .int (nI n)])) ∧ σ.2 (w + 1) = some (.inl (0, 120, .inl rk)) ∧ σ.2 (w + 2) = some (.inl (0, 120, .inl rv))
def cr_fr (w : Nat) (σ σ' : sw_S) : Prop := σ'.1 = σ.1 ∧ ∀ c, (c < w ∨ w + 2 < c) → σ'.2 c = σ.2 c
theorem cr_fr.tr {w : Nat} {σ σ1 σ2 : sw_S} (h : cr_fr w σ σ1) (h2 : cr_fr w σ1 σ2) : cr_fr w σ σ2 := ⟨h2.1.trans h.1, fun c hc => (h2.2 c hc).trans (h.2 c hc)⟩
theorem cr_fr.up {w j : Nat} {σ : sw_S} (hj : j ≤ 2) (e : sw_E) : cr_fr w σ (sw_up σ (w + j) e) := ⟨rfl, fun c hc => by simp only [sw_up]; rw [if_neg (by omega)]⟩
theorem cr.ob {w n : Nat} {σ : sw_S} {rk rv : Nat → Int32} (h : cr w σ n rk rv) : sw_ob 5 w σ = some [.ref (w + 1), .ref (w + 2), .int (nI n)] := by simp [sw_ob, h.1]
theorem cr.g2 {w n : Nat} {σ : sw_S} {rk rv : Nat → Int32} (h : cr w σ n rk rv) : sw_gI 5 w 2 σ = some (nI n) := by unfold sw_gI; rw [h.ob]; rfl
theorem cr.r0 {w n : Nat} {σ : sw_S} {rk rv : Nat → Int32} (h : cr w σ n rk rv) : sw_gR 5 w 0 σ = some (some (w + 1)) := by unfold sw_gR; rw [h.ob]; rfl
theorem cr.r1 {w n : Nat} {σ : sw_S} {rk rv : Nat → Int32} (h : cr w σ n rk rv) : sw_gR 5 w 1 σ = some (some (w + 2)) := by unfold sw_gR; rw [h.ob]; rfl
theorem cr.l1 {w n : Nat} {σ : sw_S} {rk rv : Nat → Int32} (h : cr w σ n rk rv) {i : Nat} (hi : i < 120) : sw_al 0 (w + 1) (nI i) σ = some (rk i) := by simp [sw_al, sw_ai, h.2.1, sw_ix_nI hi (by decide)]
theorem cr.l2 {w n : Nat} {σ : sw_S} {rk rv : Nat → Int32} (h : cr w σ n rk rv) {i : Nat} (hi : i < 120) : sw_al 0 (w + 2) (nI i) σ = some (rv i) := by simp [sw_al, sw_ai, h.2.2, sw_ix_nI hi (by decide)]
theorem cr.ln {w n : Nat} {σ : sw_S} {rk rv : Nat → Int32} (h : cr w σ n rk rv) : sw_len (w + 1) σ = some (nI 120) := by simp [sw_len, h.2.1]; rfl
theorem cr.p2 {w n : Nat} {σ : sw_S} {rk rv : Nat → Int32} (h : cr w σ n rk rv) (m : Nat) : ∃ σ', sw_pt 5 w 2 (.int (nI m)) σ = some σ' ∧ cr w σ' m rk rv ∧ cr_fr w σ σ' := by
  refine ⟨_, by unfold sw_pt; rw [h.ob]; rfl, ⟨?_, ?_, ?_⟩, cr_fr.up (j := 0) (by decide) _⟩
  · simp only [sw_up]; rw [if_pos (by omega)]; rfl
  · simp only [sw_up]; rw [if_neg (by omega)]; exact h.2.1
  · simp only [sw_up]; rw [if_neg (by omega)]; exact h.2.2
theorem cr.s1 {w n : Nat} {σ : sw_S} {rk rv : Nat → Int32} (h : cr w σ n rk rv) {i : Nat} (hi : i < 120) (v : Int32) : ∃ σ', sw_as 0 (w + 1) (nI i) v σ = some σ' ∧ cr w σ' n (upd rk i v) rv ∧ cr_fr w σ σ' := by
  refine ⟨sw_up σ (w + 1) (.inl (0, 120, .inl (upd rk i v))), by simp [sw_as, sw_ai, h.2.1, sw_ix_nI hi (by decide)], ⟨?_, ?_, ?_⟩, cr_fr.up (j := 1) (by decide) _⟩
  · simp only [sw_up]; rw [if_neg (by omega)]; exact h.1
  · simp only [sw_up]; rw [if_pos trivial]
  · simp only [sw_up]; rw [if_neg (by omega)]; exact h.2.2
theorem cr.s2 {w n : Nat} {σ : sw_S} {rk rv : Nat → Int32} (h : cr w σ n rk rv) {i : Nat} (hi : i < 120) (v : Int32) : ∃ σ', sw_as 0 (w + 2) (nI i) v σ = some σ' ∧ cr w σ' n rk (upd rv i v) ∧ cr_fr w σ σ' := by
  refine ⟨sw_up σ (w + 2) (.inl (0, 120, .inl (upd rv i v))), by simp [sw_as, sw_ai, h.2.2, sw_ix_nI hi (by decide)], ⟨?_, ?_, ?_⟩, cr_fr.up (j := 2) (by decide) _⟩
  · simp only [sw_up]; rw [if_neg (by omega)]; exact h.1
  · simp only [sw_up]; rw [if_neg (by omega)]; exact h.2.1
  · simp only [sw_up]; rw [if_pos trivial]
def rh (rk rv : Nat → Int32) (L : List (Int32 × Int32)) : Prop := ∀ i (h : i < L.length), rk i = L[i].1 ∧ rv i = L[i].2
theorem rh.app {rk rv : Nat → Int32} {L : List (Int32 × Int32)} (h : rh rk rv L) (k v : Int32) : rh (upd rk L.length k) (upd rv L.length v) (L ++ [(k, v)]) := by
  intro i hi
  simp only [List.length_append, List.length_cons, List.length_nil] at hi
  by_cases q : i < L.length
  · rw [List.getElem_append_left q]
    have := h i q
    unfold upd
    rw [if_neg (by omega), if_neg (by omega)]
    exact this
  · have : i = L.length := by omega
    subst this
    rw [List.getElem_append_right (Nat.le_refl _)]
    unfold upd
    simp
theorem cr_app {w : Nat} {σ : sw_S} {rk rv : Nat → Int32} {L : List (Int32 × Int32)} (h : cr w σ L.length rk rv) (hl : rh rk rv L) (hn : L.length < 120) (k v : Int32) : ∃ σ' rk' rv', f_X5_append w k v σ = some σ' ∧ cr w σ' (L ++ [(k, v)]).length rk' rv' ∧ rh rk' rv' (L ++ [(k, v)]) ∧ cr_fr w σ σ' := by
  obtain ⟨σ1, e1, c1, t1⟩ := h.s1 hn k
  obtain ⟨σ2, e2, c2, t2⟩ := c1.s2 hn v
  obtain ⟨σ3, e3, c3, t3⟩ := c2.p2 (L.length + 1)
  refine ⟨σ3, _, _, ?_, by simpa using c3, hl.app k v, (t1.tr t2).tr t3⟩
  unfold f_X5_append
  rw [h.g2, Option.bind_some, h.r0, Option.bind_some, Option.bind_some, h.ln, Option.bind_some, if_neg (nI_ge hn (by decide)), Option.bind_some, Option.bind_some, Option.bind_some, e1, Option.bind_some, c1.r1, Option.bind_some, c1.g2, Option.bind_some, Option.bind_some, e2, Option.bind_some, c2.g2, Option.bind_some, nI_1, e3]
  rfl
theorem ck.cr {σ σ' : sw_S} {p w : Nat} {K : List ps_K} {C : List (Nat × Nat)} {b : Int32 × Int32 × Int32} (h : ck x po F f T σ p K C b) (hx : po + 1 < x) (hw : x + 5 < w) (t : cr_fr w σ σ') : ck x po F f T σ' p K C b := by
  obtain ⟨fk, fn, fl, fb, fe, ⟨o1, o2, o3, o4, o5, o6⟩, h2, h3, ht⟩ := h
  exact ⟨fk, fn, fl, fb, fe, ⟨by rw [t.2 _ (by omega)]; exact o1, by rw [t.2 _ (by omega)]; exact o2, by rw [t.2 _ (by omega)]; exact o3, by rw [t.2 _ (by omega)]; exact o4, by rw [t.2 _ (by omega)]; exact o5, by rw [t.2 _ (by omega)]; exact o6⟩, h2, h3, by rw [t.2 _ (by omega)]; exact ht.1, by rw [t.2 _ (by omega)]; exact ht.2⟩
theorem ck_copy (hx : po + 1 < x) {w qu : Nat} (hw : x + 5 < w) (hqw : qu < w ∨ w + 2 < qu) {a b cn : Int32} {p : Nat} {K : List ps_K} {C : List (Nat × Nat)} {lb : Int32 × Int32 × Int32} (hK : K.length ≤ 120) : ∀ (r i fuel : Nat) {σ : sw_S} {rk rv : Nat → Int32}, i + r = K.length → r < fuel → ck x po F f T σ p K C lb → σ.2 qu = some (.inr (4, [.int a, .int b, .int cn])) → cr w σ (kR a b K i).length rk rv → rh rk rv (kR a b K i) → ∃ σ' rk' rv', b_X0_copyRows_7 fuel x qu w (nI i) σ = some σ' ∧ cr w σ' (kR a b K K.length).length rk' rv' ∧ rh rk' rv' (kR a b K K.length) ∧ cr_fr w σ σ' := by
  intro r
  induction r with
  | zero =>
    intro i fuel σ rk rv h2 hf h hq c l
    obtain ⟨fuel, rfl⟩ : ∃ g, fuel = g + 1 := ⟨fuel - 1, by omega⟩
    have : i = K.length := by omega
    subst this
    refine ⟨σ, rk, rv, ?_, c, l, ⟨rfl, fun _ _ => rfl⟩⟩
    show B_X0_copyRows_7 _ _ _ _ _ _ = _
    unfold B_X0_copyRows_7
    rw [h.gs.2.2.1, Option.bind_some, if_pos (nI_le (by omega) (by omega))]
  | succ r ih =>
    intro i fuel σ rk rv h2 hf h hq c l
    obtain ⟨fuel, rfl⟩ : ∃ g, fuel = g + 1 := ⟨fuel - 1, by omega⟩
    obtain ⟨L0, ob⟩ := h.ob
    have e0 : b_X0_copyRows_7 (fuel + 1) x qu w (nI i) σ = B_X0_copyRows_7 (b_X0_copyRows_7 fuel) x qu w (nI i) σ := rfl
    rw [e0]
    unfold B_X0_copyRows_7
    rw [h.gs.2.2.1, Option.bind_some, if_neg (nI_ge (by omega) (by omega)), ob, Option.bind_some, h.row hK hq (by omega), Option.bind_some]
    unfold b_X0_copyRows_40
    rw [nI_1]
    have hR : kR a b K (i + 1) = kR a b K i ++ (if kw a b (kk K i) then [((kk K i).1, (kk K i).2.1)] else []) := rfl
    by_cases q : kw a b (kk K i)
    · rw [if_pos q] at hR
      rw [if_pos q, if_neg (by decide), h.gs.2.2.2.2.2.2.2.1, Option.bind_some, Option.bind_some, (h.k hK (by omega)).1, Option.bind_some, h.rs.1, Option.bind_some, Option.bind_some, (h.k hK (by omega)).2.1, Option.bind_some, c.ob, Option.bind_some]
      have hlen := kR_len a b K i
      obtain ⟨σ1, rk1, rv1, e1, c1, l1, t1⟩ := cr_app c l (by omega) (kk K i).1 (kk K i).2.1
      rw [e1, Option.bind_some]
      rw [← hR] at c1 l1
      obtain ⟨σ2, rk2, rv2, e2, c2, l2, t2⟩ := ih (i + 1) fuel (by omega) (by omega) (h.cr hx hw t1) (by rw [t1.2 _ hqw]; exact hq) c1 l1
      exact ⟨σ2, rk2, rv2, e2, c2, l2, t1.tr t2⟩
    · rw [if_neg q, List.append_nil] at hR
      rw [if_neg q, if_pos rfl]
      rw [← hR] at c l
      exact ih (i + 1) fuel (by omega) (by omega) h hq c l
end CKA
