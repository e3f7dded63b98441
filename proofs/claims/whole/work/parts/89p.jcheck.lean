/-! CLASS AND REFERENCE SIDE BY SIDE: check, count, prove -/
theorem pt_at {σ : sw_S} {ci a k : Nat} {fs : List Value} (h : σ.2 a = some (.inr (ci, fs))) (hk : k < fs.length) (v : Value) : sw_pt ci a k v σ = some (sw_up σ a (.inr (ci, fs.set k v))) := by
  have ho : sw_ob ci a σ = some fs := by simp [sw_ob, h]
  unfold sw_pt
  rw [ho, Option.bind_some, if_pos hk]
theorem up_at {σ : sw_S} {a : Nat} {e : sw_E} : (sw_up σ a e).2 a = some e := by simp only [sw_up]; rw [if_pos trivial]
theorem up_ne {σ : sw_S} {a c : Nat} {e : sw_E} (h : c ≠ a) : (sw_up σ a e).2 c = σ.2 c := by simp only [sw_up]; rw [if_neg h]
theorem nw_at {σ : sw_S} {e : sw_E} : (sw_nw σ e).2 σ.1 = some e := by simp only [sw_nw]; rw [if_pos trivial]
theorem nw_ne {σ : sw_S} {c : Nat} {e : sw_E} (h : c ≠ σ.1) : (sw_nw σ e).2 c = σ.2 c := by simp only [sw_nw]; rw [if_neg h]
theorem q_new (σ : sw_S) (a b : Int32) {cn : Int32} (hcn : cn = 0 ∨ cn = 1) : ∃ σ', f_X4_init σ.1 a b cn (sw_nw σ (.inr (4, [.int 0, .int 0, .int 0]))) = some σ' ∧ σ'.1 = σ.1 + 1 ∧ σ'.2 σ.1 = some (.inr (4, [.int a, .int b, .int cn])) ∧ ∀ c, c ≠ σ.1 → σ'.2 c = σ.2 c := by
  have hz : sw_z cn = some cn := by unfold sw_z; rw [if_pos hcn]
  refine ⟨sw_up (sw_up (sw_up (sw_nw σ (.inr (4, [.int 0, .int 0, .int 0]))) σ.1 (.inr (4, [.int a, .int 0, .int 0]))) σ.1 (.inr (4, [.int a, .int b, .int 0]))) σ.1 (.inr (4, [.int a, .int b, .int cn])), ?_, rfl, up_at, fun c hc => by rw [up_ne hc, up_ne hc, up_ne hc, nw_ne hc]⟩
  unfold f_X4_init
  rw [pt_at (nw_at (σ := σ)) (by decide : 0 < 3), Option.bind_some]
  show (sw_pt 4 σ.1 1 (.int b) (sw_up (sw_nw σ (.inr (4, [.int 0, .int 0, .int 0]))) σ.1 (.inr (4, [.int a, .int 0, .int 0])))).bind _ = _
  rw [pt_at (up_at) (by decide : 1 < 3), Option.bind_some, hz, Option.bind_some]
  show (sw_pt 4 σ.1 2 (.int cn) (sw_up (sw_up (sw_nw σ (.inr (4, [.int 0, .int 0, .int 0]))) σ.1 (.inr (4, [.int a, .int 0, .int 0]))) σ.1 (.inr (4, [.int a, .int b, .int 0])))).bind _ = _
  rw [pt_at (up_at) (by decide : 2 < 3), Option.bind_some]
  rfl
section JC
variable {x m0 n : Nat} {fc fm : Nat → Option sw_E}
theorem jn_mk {F : Nat} {S : pv_Sh} {c : Nat} {I I' : Nat → Int32} {Ar Ar' : Nat → Nat → Int32} {Aj Aj' : Nat → Nat → Int64} {f : Nat → Int32} {T L : Nat} {rk rv : Nat → Int32} (ht : md_tr I Ar F S c) (hw : wm x (n, fc) F S (Ar 1) (Ar 2) f T L rk rv) (r1 : T ≤ 240) (r2 : I 12 = nI T) (r3 : ∀ i, i < T → f i = Ar 8 i) (hk : rik I Ar Aj I' Ar' Aj') (h29 : I' 29 = nI L) (hL : L ≤ 120) (hr : ∀ i, i < L → rk i = Ar' 21 i ∧ rv i = Ar' 22 i) : jn x m0 n fc (md_mk m0 I' Ar' Aj') := by
  refine ⟨F, S, c, I', Ar', Aj', f, T, L, rk, rv, rfl, md_tr_12 (md_tr_8 ht fun t q => hk.2.1 t (by omega)) fun t q => hk.1 t (by omega), ?_, r1, (hk.1 12 (by decide)).trans r2, ?_, h29, hL, hr⟩
  · rw [hk.2.1 1 (by decide), hk.2.1 2 (by decide)]; exact hw
  · rw [hk.2.1 8 (by decide)]; exact r3
theorem jn_check (h : jn x m0 n fc fm) (w a b : Int32) : jr x m0 n fm (f_X7_check x w a b (n, fc)) (fun n' => f_X8_check m0 w a b (n', fm)) := by
  obtain ⟨F, S, c, I, Ar, Aj, f, T, L, rk, rv, rfl, ht, hw, r1, r2, r3, r4, r5, r6⟩ := h
  have hF : F ≤ 5 := ht.2.2.2.2.1.2.1
  have hxn : x + 18 < n := hw.2.2.2.2
  obtain ⟨σ4, e4, n4, q4, k4⟩ := q_new (n, fc) a b (cn := 0) (Or.inl rfl)
  have hw4 : wm x σ4 F S (Ar 1) (Ar 2) f T L rk rv := hw.gr (by rw [n4]; exact Nat.le_succ _) fun c hc => k4 c (Nat.ne_of_lt hc)
  have hcg : ps0 f T F = ps0 (Ar 8) T F := ps_cg hF r3 6 true 0 0 0 0
  have hbad : ∀ (σ' : sw_S), wm x σ' F S (Ar 1) (Ar 2) f T L rk rv → (b < a ∨ ∀ R, ps0 f T F = some R → ¬ pc_ok T w a b 0 R) → jr x m0 n (md_mk m0 I Ar Aj) (some (-1, σ')) (fun n' => f_X8_check m0 w a b (n', md_mk m0 I Ar Aj)) := by
    intro σ' hw' hno
    rcases md_check (N := σ'.1) (m0 := m0) (Aj := Aj) (f := Ar 8) hF r1 ht.1 r2 rfl w a b with ⟨R, I', Ar', Aj', q1, q2, q3, -⟩ | ⟨I', Ar', Aj', q1, q2, q3, q4, q5, -⟩
    · rcases hno with g | g
      · exact absurd g q1
      · exact absurd q3 (g R (hcg.trans q2))
    · exact ⟨-1, σ'.1, σ'.2, _, rfl, q1, jn_mk ht hw' r1 r2 r3 q2 (q3.trans r4) r5 (by rw [q4, q5]; exact r6)⟩
  unfold f_X7_check
  rw [Option.bind_some, show f_X4_init (n, fc).1 a b 0 (sw_nw (n, fc) (.inr (4, [.int 0, .int 0, .int 0]))) = some σ4 from e4, Option.bind_some]
  by_cases c1 : b < a
  · rw [if_pos c1]
    exact hbad σ4 hw4 (Or.inl c1)
  · have hob : ∃ L0, sw_ob 0 (x + 10) σ4 = some L0 := by
      obtain ⟨v7, v8, v9, v10, v11, v12, fk, fn, fl, fb, fe, o, t⟩ := hw4.2.2.1
      exact ⟨_, o.ob⟩
    obtain ⟨L0, hob⟩ := hob
    rw [if_neg c1, hw4.r2, Option.bind_some, Option.bind_some, hob, Option.bind_some]
    rcases ck_accepts (x := x + 10) (po := x + 8) (by omega) r1 hF (w := w) hw4.2.2.1 (qu := n) (Or.inr (by omega)) q4 with ⟨σ', R, e1, e2, e3, e5, e6⟩ | ⟨σ', e1, e2, e3, e5⟩
    · have hw5 := hw4.chk e6 e5.any
      have hq5 : σ'.2 n = some (.inr (4, [.int a, .int b, .int 0])) := by rw [e6.2 n (Or.inr (by omega))]; exact q4
      obtain ⟨l1, l2, l3, l4, -⟩ := ps_len hF 6 e2
      obtain ⟨L5, ob5⟩ := e5.ob
      obtain ⟨σ6, p1, p2, p3⟩ := hw5.2.2.2.1.p2 0
      have e5' := e5.cr (by omega) (by omega : x + 10 + 5 < x + 16) p3
      obtain ⟨σ7, rk', rv', g1, g2, g3, g4⟩ := ck_copy (f := f) (by omega : x + 8 + 1 < x + 10) (by omega : x + 10 + 5 < x + 16) (qu := n) (Or.inr (by omega)) (a := a) (b := b) (cn := 0) (by omega : R.2.1.length ≤ 120) R.2.1.length 0 1000 (by omega) (by omega) e5' (by rw [p3.2 n (Or.inr (by omega))]; exact hq5) p2 (fun i hi => absurd hi (Nat.not_lt_zero i))
      have hw7 := hw5.row (p3.tr g4) g2
      have hcopy : f_X0_copyRows (x + 10) n (x + 16) σ' = some σ7 := by
        unfold f_X0_copyRows
        rw [show sw_pt 5 (x + 16) 2 (.int 0) σ' = some σ6 from p1, Option.bind_some]
        exact g1
      rw [show f_X0_accepts (x + 10) w (n, fc).1 σ4 = some (1, σ') from e1, cw_b2, if_neg (by decide), hw5.r2, Option.bind_some, hw5.r3, Option.bind_some, Option.bind_some, Option.bind_some, ob5, Option.bind_some, show f_X0_copyRows (x + 10) (n, fc).1 (x + 16) σ' = some σ7 from hcopy, Option.bind_some, hw7.r3, Option.bind_some, Option.bind_some, g2.g2, Option.bind_some]
      rcases md_check (N := σ7.1) (m0 := m0) (Aj := Aj) (f := Ar 8) hF r1 ht.1 r2 rfl w a b with ⟨R', I', Ar', Aj', t1, t2, t3, t4, t5, t6, t7⟩ | ⟨I', Ar', Aj', t1, t2, t3, t4, t5, t6⟩
      · rw [← hcg, e2] at t2
        cases t2
        have hlen := kR_len a b R.2.1 R.2.1.length
        refine ⟨_, σ7.1, σ7.2, _, rfl, t4, jn_mk ht hw7 r1 r2 r3 t7 t5 (by omega) fun i hi => ?_⟩
        rw [(g3 i hi).1, (g3 i hi).2, (t6 i hi).1, (t6 i hi).2]
        exact ⟨rfl, rfl⟩
      · rcases t6 with g | g
        · exact absurd g c1
        · exact absurd e3 (g R (hcg.symm.trans e2))
    · rw [show f_X0_accepts (x + 10) w (n, fc).1 σ4 = some (0, σ') from e1, cw_b2, if_pos rfl]
      exact hbad σ' (hw4.chk e3 e2) (Or.inr e5)
theorem jn_count (h : jn x m0 n fc fm) (w a b : Int32) : jr x m0 n fm (f_X7_count x w a b (n, fc)) (fun n' => f_X8_count m0 w a b (n', fm)) := by
  obtain ⟨F, S, c, I, Ar, Aj, f, T, L, rk, rv, rfl, ht, hw, r1, r2, r3, r4, r5, r6⟩ := h
  have hF : F ≤ 5 := ht.2.2.2.2.1.2.1
  have hxn : x + 18 < n := hw.2.2.2.2
  obtain ⟨σ4, e4, n4, q4, k4⟩ := q_new (n, fc) a b (cn := 1) (Or.inr rfl)
  have hw4 : wm x σ4 F S (Ar 1) (Ar 2) f T L rk rv := hw.gr (by rw [n4]; exact Nat.le_succ _) fun c hc => k4 c (Nat.ne_of_lt hc)
  have hcg : ps0 f T F = ps0 (Ar 8) T F := ps_cg hF r3 6 true 0 0 0 0
  have hbad : ∀ (σ' : sw_S), wm x σ' F S (Ar 1) (Ar 2) f T L rk rv → (b < a ∨ ∀ R, ps0 f T F = some R → ¬ pc_ok T w a b 1 R) → jr x m0 n (md_mk m0 I Ar Aj) (some (-1, σ')) (fun n' => f_X8_count m0 w a b (n', md_mk m0 I Ar Aj)) := by
    intro σ' hw' hno
    rcases md_count (N := σ'.1) (m0 := m0) (Aj := Aj) (f := Ar 8) hF r1 ht.1 r2 rfl w a b with ⟨R, I', Ar', Aj', q1, q2, q3, -⟩ | ⟨I', Ar', Aj', q1, q2, q3, q4, q5, -⟩
    · rcases hno with g | g
      · exact absurd g q1
      · exact absurd q3 (g R (hcg.trans q2))
    · exact ⟨-1, σ'.1, σ'.2, _, rfl, q1, jn_mk ht hw' r1 r2 r3 q2 (q3.trans r4) r5 (by rw [q4, q5]; exact r6)⟩
  unfold f_X7_count
  rw [Option.bind_some, show f_X4_init (n, fc).1 a b 1 (sw_nw (n, fc) (.inr (4, [.int 0, .int 0, .int 0]))) = some σ4 from e4, Option.bind_some]
  by_cases c1 : b < a
  · rw [if_pos c1]
    exact hbad σ4 hw4 (Or.inl c1)
  · have hob : ∃ L0, sw_ob 0 (x + 10) σ4 = some L0 := by
      obtain ⟨v7, v8, v9, v10, v11, v12, fk, fn, fl, fb, fe, o, t⟩ := hw4.2.2.1
      exact ⟨_, o.ob⟩
    obtain ⟨L0, hob⟩ := hob
    rw [if_neg c1, hw4.r2, Option.bind_some, Option.bind_some, hob, Option.bind_some]
    rcases ck_accepts (x := x + 10) (po := x + 8) (by omega) r1 hF (w := w) hw4.2.2.1 (qu := n) (Or.inr (by omega)) q4 with ⟨σ', R, e1, e2, e3, e5, e6⟩ | ⟨σ', e1, e2, e3, e5⟩
    · have hw5 := hw4.chk e6 e5.any
      have hq5 : σ'.2 n = some (.inr (4, [.int a, .int b, .int 1])) := by rw [e6.2 n (Or.inr (by omega))]; exact q4
      obtain ⟨l1, l2, l3, l4, -⟩ := ps_len hF 6 e2
      obtain ⟨L5, ob5⟩ := e5.ob
      have htot : f_X0_total (x + 10) n σ' = some (pv_it (fun j s => s + kc a b R.2.1 j) R.2.1.length 0) := ck_total e5 (by omega) hq5 R.2.1.length 0 1000 (by omega) (by omega)
      rw [show f_X0_accepts (x + 10) w (n, fc).1 σ4 = some (1, σ') from e1, cw_b2, if_neg (by decide), hw5.r2, Option.bind_some, Option.bind_some, ob5, Option.bind_some, show f_X0_total (x + 10) (n, fc).1 σ' = _ from htot, Option.bind_some]
      rcases md_count (N := σ'.1) (m0 := m0) (Aj := Aj) (f := Ar 8) hF r1 ht.1 r2 rfl w a b with ⟨R', I', Ar', Aj', t1, t2, t3, t4, t5, t6, t7, t8⟩ | ⟨I', Ar', Aj', t1, t2, t3, t4, t5, t6⟩
      · rw [← hcg, e2] at t2
        cases t2
        exact ⟨_, σ'.1, σ'.2, _, rfl, t4, jn_mk ht hw5 r1 r2 r3 t8 (t5.trans r4) r5 (by rw [t6, t7]; exact r6)⟩
      · rcases t6 with g | g
        · exact absurd g c1
        · exact absurd e3 (g R (hcg.symm.trans e2))
    · rw [show f_X0_accepts (x + 10) w (n, fc).1 σ4 = some (0, σ') from e1, cw_b2, if_pos rfl]
      exact hbad σ' (hw4.chk e3 e2) (Or.inr e5)
theorem md_tr_rt {I : Nat → Int32} {Ar : Nat → Nat → Int32} {F : Nat} {S : pv_Sh} {c : Nat} (h : md_tr I Ar F S c) : rt I Ar S (Ar 1) (Ar 2) := by
  obtain ⟨t0, t1, t2, t3, t4, t5, t6, t7⟩ := h
  refine ⟨t3.1, rfl, rfl, fun l hl k hk => ?_⟩
  obtain ⟨q1, q2, q3⟩ := t7 l hl k hk
  exact ⟨((t3.2.2.2 l hl).1.2.2.2 k hk).1, q1, q2, q3⟩
theorem jn_prove (h : jn x m0 n fc fm) (a b : Int32) {cn : Int32} (hcn : cn = 0 ∨ cn = 1) : jr x m0 n fm (f_X7_prove x a b cn (n, fc)) (fun n' => f_X8_prove m0 a b cn (n', fm)) := by
  obtain ⟨F, S, c, I, Ar, Aj, f, T, L, rk, rv, rfl, ht, hw, r1, r2, r3, r4, r5, r6⟩ := h
  unfold f_X7_prove
  by_cases c1 : a ≤ b
  · have hwf := ht.2.2.2.2.1
    have hc := ht.2.2.2.2.2.1
    have hxn : x + 18 < n := hw.2.2.2.2
    have hS5 := ((hwf.x 0 0).cnt (by omega)).1
    have hS0 := hwf.2.2.1
    have hS1 := hwf.2.2.2.1
    rw [if_pos c1, hw.r1, Option.bind_some, Option.bind_some, pt_at hw.t.1 (by decide : 1 < 2), Option.bind_some, Option.bind_some]
    have e5 : sw_up (n, fc) (x + 8) (.inr (2, List.set [.ref (x + 8 + 1), .int (nI T)] 1 (.int 0))) = sw_up (n, fc) (x + 8) (.inr (2, [.ref (x + 8 + 1), .int (nI 0)])) := rfl
    rw [e5]
    have hs51 : (sw_up (n, fc) (x + 8) (.inr (2, [.ref (x + 8 + 1), .int (nI 0)]))).1 = n := rfl
    have c5x : (sw_up (n, fc) (x + 8) (.inr (2, [.ref (x + 8 + 1), .int (nI 0)]))).2 (x + 8) = some (.inr (2, [.ref (x + 8 + 1), .int (nI 0)])) := up_at
    have k5 : ∀ c, c ≠ x + 8 → (sw_up (n, fc) (x + 8) (.inr (2, [.ref (x + 8 + 1), .int (nI 0)]))).2 c = fc c := fun c hc => up_ne hc
    generalize sw_up (n, fc) (x + 8) (.inr (2, [.ref (x + 8 + 1), .int (nI 0)])) = σ5 at *
    have n7 : (sw_nw σ5 (.inr (3, [.null, .null]))).1 = n + 1 := by show σ5.1 + 1 = n + 1; rw [hs51]
    have a7 : (sw_nw σ5 (.inr (3, [.null, .null]))).2 n = some (.inr (3, [.null, .null])) := by rw [← hs51]; exact nw_at
    have k7 : ∀ c, c ≠ n → (sw_nw σ5 (.inr (3, [.null, .null]))).2 c = σ5.2 c := fun c hc => nw_ne (by rw [hs51]; exact hc)
    generalize sw_nw σ5 (.inr (3, [.null, .null])) = σ7 at *
    have r17 : sw_gR 7 x 1 σ7 = some (some (x + 8)) := by
      have : sw_ob 7 x σ7 = some [.ref (x + 1), .ref (x + 8), .ref (x + 10), .ref (x + 16)] := by
        have h1 := hw.1
        have h2 : σ7.2 x = some (.inr (7, [.ref (x + 1), .ref (x + 8), .ref (x + 10), .ref (x + 16)])) := by rw [k7 x (by omega), k5 x (by omega)]; exact h1
        simp [sw_ob, h2]
      unfold sw_gR; rw [this]; rfl
    obtain ⟨σ14, e14, n14, q14, k14⟩ := q_new σ7 a b hcn
    rw [n7] at n14 q14 k14
    rw [r17, Option.bind_some, Option.bind_some, show f_X4_init σ7.1 a b cn (sw_nw σ7 (.inr (4, [.int 0, .int 0, .int 0]))) = some σ14 from e14, Option.bind_some, Option.bind_some, hs51, n7]
    have a14 : σ14.2 n = some (.inr (3, [.null, .null])) := by rw [k14 n (by omega)]; exact a7
    have h3 : f_X3_init n (x + 8) (n + 1) σ14 = some (sw_up (sw_up σ14 n (.inr (3, [.ref (x + 8), .null]))) n (.inr (3, [.ref (x + 8), .ref (n + 1)]))) := by
      unfold f_X3_init
      rw [pt_at a14 (by decide : 0 < 2), Option.bind_some]
      show (sw_pt 3 n 1 (va_rf (some (n + 1))) (sw_up σ14 n (.inr (3, [.ref (x + 8), .null])))).bind _ = _
      rw [pt_at up_at (by decide : 1 < 2), Option.bind_some]
      rfl
    rw [h3, Option.bind_some]
    have n17 : (sw_up (sw_up σ14 n (.inr (3, [.ref (x + 8), .null]))) n (.inr (3, [.ref (x + 8), .ref (n + 1)]))).1 = n + 1 + 1 := n14
    have a17 : (sw_up (sw_up σ14 n (.inr (3, [.ref (x + 8), .null]))) n (.inr (3, [.ref (x + 8), .ref (n + 1)]))).2 n = some (.inr (3, [.ref (x + 8), .ref (n + 1)])) := up_at
    have k17 : ∀ c, c ≠ n → (sw_up (sw_up σ14 n (.inr (3, [.ref (x + 8), .null]))) n (.inr (3, [.ref (x + 8), .ref (n + 1)]))).2 c = σ14.2 c := fun c hc => by rw [up_ne hc, up_ne hc]
    generalize sw_up (sw_up σ14 n (.inr (3, [.ref (x + 8), .null]))) n (.inr (3, [.ref (x + 8), .ref (n + 1)])) = σ17 at *
    have kk17 : ∀ c, c < n → c ≠ x + 8 → σ17.2 c = fc c := fun c hc hx => by rw [k17 c (by omega), k14 c (by omega), k7 c (by omega), k5 c hx]
    have ht17 : ck_t (x + 8) f 0 σ17 := ⟨by rw [k17 _ (by omega), k14 _ (by omega), k7 _ (by omega)]; exact c5x, by rw [kk17 _ (by omega) (by omega)]; exact hw.t.2⟩
    have hw17 : wm x σ17 F S (Ar 1) (Ar 2) f 0 L rk rv := hw.tok (by rw [n17]; show n ≤ n + 1 + 1; omega) (fun c hc q1 q2 => kk17 c hc q1) ht17
    have q17 : σ17.2 (n + 1) = some (.inr (4, [.int a, .int b, .int cn])) := by rw [k17 _ (by omega)]; exact q14
    obtain ⟨H, A, Lb, pth, plc, ⟨hct, hcp⟩, hla⟩ := id hw17.2.1
    have hpw : pw (F + 1) (ct_P (x + 1) (wP x)) H (x + 8) n (n + 1) a b cn σ17 [] := ⟨hct.1, f, ⟨ht17.1, ht17.2, a17, q17⟩, fun i hi => absurd hi (Nat.not_lt_zero i)⟩
    have hlen := pr_all_len (Ek := Ar 1) (Ev := Ar 2) hwf hc a b cn
    obtain ⟨σ27, w1, ⟨w2, f', w3, w4⟩, w5⟩ := pw_write (P := ct_P (x + 1) (wP x)) (po := x + 8) (pv := n) (qu := n + 1) (a := a) (b := b) (cn := cn) (H := H) (A := A) (Lb := Lb) (N := F + 1) (Ek := Ar 1) (Ev := Ar 2) ⟨Or.inr (Or.inr (by omega)), Or.inr (Or.inr (by omega))⟩ ⟨⟨by omega, by omega⟩, by omega, by omega⟩ hcp hwf hc hla rfl (S.1 - 1) 8 (k := 0) (fr := -1099511627776) (en := 1099511627776) (by omega) (by omega) (by omega) ⟨by decide, by decide⟩ hpw hlen
    rw [show S.1 - (S.1 - 1) = 1 by omega] at w1
    have hob3 : sw_ob 3 n σ17 = some [.ref (x + 8), .ref (n + 1)] := by simp [sw_ob, a17]
    have w1' : f_X3_write 8 n (A (S.1 - 1) 0) (-1099511627776) 1099511627776 1 σ17 = some σ27 := w1
    rw [hw17.r0, Option.bind_some, Option.bind_some, hct.r4, Option.bind_some, Option.bind_some, hob3, Option.bind_some, w1', Option.bind_some]
    have ht27 : ck_t (x + 8) f' (pr_all S (Ar 1) (Ar 2) a b cn).length σ27 := ⟨w3.1, w3.2.1⟩
    have hw27 : wm x σ27 F S (Ar 1) (Ar 2) f' (pr_all S (Ar 1) (Ar 2) a b cn).length L rk rv := hw17.tok (Nat.le_of_eq w5.1.symm) (fun c _ q1 q2 => w5.2 c q1 q2) ht27
    rw [hw27.r1, Option.bind_some, Option.bind_some, ht27.g1, Option.bind_some]
    obtain ⟨I', Ar', Aj', p1, p2, p3⟩ := md_prove (n := σ27.1) (m0 := m0) (Aj := Aj) hwf hc (md_tr_rt ht) c1 cn
    refine ⟨_, σ27.1, σ27.2, _, rfl, p1, F, S, c, I', Ar', Aj', f', (pr_all S (Ar 1) (Ar 2) a b cn).length, L, rk, rv, rfl, md_tr_12 (md_tr_8 ht fun t q => p3.2.1 t (by omega) (by omega)) fun t q => p3.1 t (by omega), ?_, hlen, p2.1, fun i hi => ?_, (p3.1 29 (by decide)).trans r4, r5, ?_⟩
    · rw [p3.2.1 1 (by decide) (by decide), p3.2.1 2 (by decide) (by decide)]; exact hw27
    · rw [p2.2 i hi]; exact w4 i hi
    · rw [p3.2.1 21 (by decide) (by decide), p3.2.1 22 (by decide) (by decide)]; exact r6
  · rw [if_neg c1]
    refine ⟨-1, n, fc, md_mk m0 I Ar Aj, rfl, ?_, F, S, c, I, Ar, Aj, f, T, L, rk, rv, rfl, ht, hw, r1, r2, r3, r4, r5, r6⟩
    show f_X8_prove m0 a b cn (n, md_mk m0 I Ar Aj) = _
    unfold f_X8_prove
    rw [if_neg c1]
end JC
