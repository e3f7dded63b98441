/-! CLASS AND REFERENCE SIDE BY SIDE -/
theorem ps_lf_cg {f g : Nat → Int32} {T : Nat} (h : ∀ i, i < T → f i = g i) {p : Nat} : ∀ z, p + 2 * z ≤ T → ps_lf f p z = ps_lf g p z := by
  intro z
  induction z with
  | zero => intro _; rfl
  | succ z ih => intro hz; rw [ps_lf_s, ps_lf_s, ih (by omega), h _ (by omega), h _ (by omega)]
theorem ps_ll_cg {f g : Nat → Int32} {T : Nat} (h : ∀ i, i < T → f i = g i) {p z : Nat} (hz : p + 2 * z ≤ T) : ps_ll f p z = ps_ll g p z := by
  unfold ps_ll
  have e1 : (if z = 0 then 0 else f p) = (if z = 0 then 0 else g p) := by
    by_cases q : z = 0
    · rw [if_pos q, if_pos q]
    · rw [if_neg q, if_neg q, h _ (by omega)]
  rw [e1, pv_it_congr (g := fun j h => pv_mix (pv_mix h (g (p + 2 * j))) (g (p + 2 * j + 1))) fun j hj y => by rw [h _ (by omega), h _ (by omega)]]
theorem ps_cg {f g : Nat → Int32} {T F : Nat} (hF : F ≤ 5) (h : ∀ i, i < T → f i = g i) : ∀ (d : Nat) (r : Bool) (up n k p : Nat), ps f T F d r up n k p = ps g T F d r up n k p := by
  intro d
  induction d with
  | zero => intro r up n k p; rfl
  | succ d ih =>
    intro r up n k p
    conv => lhs; unfold ps
    conv => rhs; unfold ps
    by_cases c1 : T < p + 2
    · rw [if_pos c1, if_pos c1]
    · rw [if_neg c1, if_neg c1, h p (by omega), h (p + 1) (by omega)]
      have e0 : (if r = true ∨ T < p + 4 ∨ f (p + 3) < 1 then none else some (p + 4, [(g (p + 1), f (p + 3), 1)], [((0, up, p, 0), (k, k + 1), (g (p + 1), f (p + 2), f (p + 3)))], [], (g (p + 1), f (p + 2), f (p + 3))) : Option ps_R) = (if r = true ∨ T < p + 4 ∨ g (p + 3) < 1 then none else some (p + 4, [(g (p + 1), g (p + 3), 1)], [((0, up, p, 0), (k, k + 1), (g (p + 1), g (p + 2), g (p + 3)))], [], (g (p + 1), g (p + 2), g (p + 3)))) := by
        by_cases c2 : T < p + 4
        · rw [if_pos (Or.inr (Or.inl c2)), if_pos (Or.inr (Or.inl c2))]
        · rw [h (p + 2) (by omega), h (p + 3) (by omega)]
      have e1 : (fun z => if T < p + 2 + 2 * z then none else some (p + 2 + 2 * z, ps_lf f (p + 2) z, [((1, up, p, z), (k, k + z), ps_ll f (p + 2) z)], [], ps_ll f (p + 2) z) : Nat → Option ps_R) = (fun z => if T < p + 2 + 2 * z then none else some (p + 2 + 2 * z, ps_lf g (p + 2) z, [((1, up, p, z), (k, k + z), ps_ll g (p + 2) z)], [], ps_ll g (p + 2) z)) := by
        funext z
        by_cases c2 : T < p + 2 + 2 * z
        · rw [if_pos c2, if_pos c2]
        · rw [if_neg c2, if_neg c2, ps_lf_cg h z (by omega), ps_ll_cg h (by omega)]
      have eg : (fun n' k' p' => ps f T F d false n n' k' p') = (fun n' k' p' => ps g T F d false n n' k' p') := by
        funext n' k' p'
        exact ih false n n' k' p'
      have e2 : ∀ s i, ps_c f (fun n' k' p' => ps f T F d false n n' k' p') n k s i = ps_c g (fun n' k' p' => ps g T F d false n n' k' p') n k s i := by
        intro s i
        rw [eg]
        induction i with
        | zero => rfl
        | succ i ihi =>
          show (ps_c f _ n k s i).bind _ = (ps_c g _ n k s i).bind _
          rw [ihi]
          cases hs : ps_c g (fun n' k' p' => ps g T F d false n n' k' p') n k s i with
          | none => rfl
          | some s1 =>
            rw [Option.bind_some, Option.bind_some]
            show (ps g T F d false n (n + 1 + s1.2.2.1.length) (k + s1.2.1.length) s1.1).bind _ = (ps g T F d false n (n + 1 + s1.2.2.1.length) (k + s1.2.1.length) s1.1).bind _
            cases hr : ps g T F d false n (n + 1 + s1.2.2.1.length) (k + s1.2.1.length) s1.1 with
            | none => rfl
            | some r1 =>
              rw [Option.bind_some, Option.bind_some]
              obtain ⟨l1, l2, l3, -, -⟩ := ps_len hF d hr
              unfold ps_st
              rw [h s1.1 (by omega)]
      have e3 : (fun z => (ps_c f (fun n' k' p' => ps f T F d false n n' k' p') n k (p + 2, [], [], [], (0, pv_mix (pv_mix 1 2) (nI z), 0)) z).bind fun s => some (s.1, s.2.1, ((2, up, p, z), (k, k + s.2.1.length), s.2.2.2.2) :: s.2.2.1, s.2.2.2.1, s.2.2.2.2) : Nat → Option ps_R) = (fun z => (ps_c g (fun n' k' p' => ps g T F d false n n' k' p') n k (p + 2, [], [], [], (0, pv_mix (pv_mix 1 2) (nI z), 0)) z).bind fun s => some (s.1, s.2.1, ((2, up, p, z), (k, k + s.2.1.length), s.2.2.2.2) :: s.2.2.1, s.2.2.2.1, s.2.2.2.2)) := by
        funext z
        rw [e2]
      rw [e0, e1, e3]
/-- cells that are kept apart may change, the heap may grow: the tree stays -/
theorem cz.po {tr : Nat} {PO : Nat → Prop} {σ σ' : sw_S} {F : Nat} {S : pv_Sh} {Ek Ev : Nat → Int32} (h : cz tr PO σ F S Ek Ev) (h1 : σ.1 ≤ σ'.1) (h2 : ∀ c, c < σ.1 → ¬ PO c → σ'.2 c = σ.2 c) : cz tr PO σ' F S Ek Ev := by
  obtain ⟨H, A, Lb, pth, plc, ⟨⟨⟨n1, n2, n3, n4⟩, ⟨o1, o2, o3⟩, p1, p2⟩, c2⟩, la⟩ := h
  have htr : ∀ c, (c = tr ∨ c = tr + 1 ∨ c = tr + 2) → σ'.2 c = σ.2 c := fun c hc => h2 c (by omega) fun q => by have := (p1 c q).1; omega
  refine ⟨H, A, Lb, pth, plc, ⟨⟨⟨fun a v ha i hi => ?_, n2, fun b w hb => Nat.lt_of_lt_of_le (n3 b w hb) h1, n4⟩, ⟨?_, ?_, ?_⟩, fun c hc => ⟨(p1 c hc).1, Nat.lt_of_lt_of_le (p1 c hc).2 h1⟩, Nat.lt_of_lt_of_le p2 h1⟩, c2⟩, la⟩
  · rw [h2 (a + i) (by have := n3 a v ha; omega) fun q => n2 a v i ha hi (Or.inr q)]
    exact n1 a v ha i hi
  · rw [htr tr (Or.inl rfl)]; exact o1
  · rw [htr (tr + 1) (Or.inr (Or.inl rfl))]; exact o2
  · rw [htr (tr + 2) (Or.inr (Or.inr rfl))]; exact o3
theorem cz.ob {tr : Nat} {PO : Nat → Prop} {σ : sw_S} {F : Nat} {S : pv_Sh} {Ek Ev : Nat → Int32} (h : cz tr PO σ F S Ek Ev) : ∃ L, sw_ob 6 tr σ = some L := by
  obtain ⟨H, A, Lb, pth, plc, ⟨h1, -⟩, -⟩ := h
  exact ⟨_, h1.ob⟩
theorem ck_t.s {po : Nat} {f : Nat → Int32} {T : Nat} {σ : sw_S} (h : ck_t po f T σ) {i : Nat} (hi : i < 240) (v : Int32) : sw_as 0 (po + 1) (nI i) v σ = some (sw_up σ (po + 1) (.inl (0, 240, .inl (upd f i v)))) := by simp [sw_as, sw_ai, h.2, sw_ix_nI hi (by decide)]
def wP (x : Nat) : Nat → Prop := fun c => c = x ∨ (x + 8 ≤ c ∧ c ≤ x + 18)
/-- the class's whole store -/
def wm (x : Nat) (σ : sw_S) (F : Nat) (S : pv_Sh) (Ek Ev f : Nat → Int32) (T n : Nat) (rk rv : Nat → Int32) : Prop := σ.2 x = some (.inr (7, [.ref (x + 1), .ref (x + 8), .ref (x + 10), .ref (x + 16)])) ∧ cz (x + 1) (wP x) σ F S Ek Ev ∧ ck_any (x + 10) (x + 8) F f T σ ∧ cr (x + 16) σ n rk rv ∧ x + 18 < σ.1
section WM
variable {x : Nat} {σ : sw_S} {F : Nat} {S : pv_Sh} {Ek Ev f : Nat → Int32} {T n : Nat} {rk rv : Nat → Int32}
theorem wm.ob (h : wm x σ F S Ek Ev f T n rk rv) : sw_ob 7 x σ = some [.ref (x + 1), .ref (x + 8), .ref (x + 10), .ref (x + 16)] := by simp [sw_ob, h.1]
theorem wm.r0 (h : wm x σ F S Ek Ev f T n rk rv) : sw_gR 7 x 0 σ = some (some (x + 1)) := by unfold sw_gR; rw [h.ob]; rfl
theorem wm.r1 (h : wm x σ F S Ek Ev f T n rk rv) : sw_gR 7 x 1 σ = some (some (x + 8)) := by unfold sw_gR; rw [h.ob]; rfl
theorem wm.r2 (h : wm x σ F S Ek Ev f T n rk rv) : sw_gR 7 x 2 σ = some (some (x + 10)) := by unfold sw_gR; rw [h.ob]; rfl
theorem wm.r3 (h : wm x σ F S Ek Ev f T n rk rv) : sw_gR 7 x 3 σ = some (some (x + 16)) := by unfold sw_gR; rw [h.ob]; rfl
theorem wm.t (h : wm x σ F S Ek Ev f T n rk rv) : ck_t (x + 8) f T σ := by
  obtain ⟨-, -, ⟨v7, v8, v9, v10, v11, v12, fk, fn, fl, fb, fe, o, t⟩, -⟩ := h
  exact t
theorem ck_any.eq {y po : Nat} {σ' : sw_S} (h : ck_any y po F f T σ) (he : ∀ c, (c = po ∨ c = po + 1 ∨ (y ≤ c ∧ c ≤ y + 5)) → σ'.2 c = σ.2 c) : ck_any y po F f T σ' := by
  obtain ⟨v7, v8, v9, v10, v11, v12, fk, fn, fl, fb, fe, ⟨o1, o2, o3, o4, o5, o6⟩, t1, t2⟩ := h
  exact ⟨v7, v8, v9, v10, v11, v12, fk, fn, fl, fb, fe, ⟨by rw [he _ (by omega)]; exact o1, by rw [he _ (by omega)]; exact o2, by rw [he _ (by omega)]; exact o3, by rw [he _ (by omega)]; exact o4, by rw [he _ (by omega)]; exact o5, by rw [he _ (by omega)]; exact o6⟩, by rw [he _ (by omega)]; exact t1, by rw [he _ (by omega)]; exact t2⟩
theorem ck_any.tok {y po : Nat} {σ' : sw_S} {f' : Nat → Int32} {T' : Nat} (h : ck_any y po F f T σ) (he : ∀ c, (y ≤ c ∧ c ≤ y + 5) → σ'.2 c = σ.2 c) (ht : ck_t po f' T' σ') : ck_any y po F f' T' σ' := by
  obtain ⟨v7, v8, v9, v10, v11, v12, fk, fn, fl, fb, fe, ⟨o1, o2, o3, o4, o5, o6⟩, t1, t2⟩ := h
  exact ⟨v7, v8, v9, v10, v11, v12, fk, fn, fl, fb, fe, ⟨by rw [he _ (by omega)]; exact o1, by rw [he _ (by omega)]; exact o2, by rw [he _ (by omega)]; exact o3, by rw [he _ (by omega)]; exact o4, by rw [he _ (by omega)]; exact o5, by rw [he _ (by omega)]; exact o6⟩, ht⟩
theorem cr.eq {w : Nat} {σ' : sw_S} (h : cr w σ n rk rv) (he : ∀ c, (w ≤ c ∧ c ≤ w + 2) → σ'.2 c = σ.2 c) : cr w σ' n rk rv := ⟨by rw [he _ (by omega)]; exact h.1, by rw [he _ (by omega)]; exact h.2.1, by rw [he _ (by omega)]; exact h.2.2⟩
/-- the tree has changed, nothing else -/
theorem wm.tree (h : wm x σ F S Ek Ev f T n rk rv) {σ' : sw_S} {S' : pv_Sh} {Ek' Ev' : Nat → Int32} (hz : cz (x + 1) (wP x) σ' F S' Ek' Ev') (hs : pv_sg (wP x) σ σ') : wm x σ' F S' Ek' Ev' f T n rk rv := by
  obtain ⟨h1, h2, h3, h4, h5⟩ := h
  exact ⟨by rw [hs.2 x (Or.inl rfl)]; exact h1, hz, h3.eq fun c hc => hs.2 c (Or.inr (by omega)), h4.eq fun c hc => hs.2 c (Or.inr (by omega)), Nat.lt_of_lt_of_le h5 hs.1⟩
/-- the heap has grown -/
theorem wm.gr (h : wm x σ F S Ek Ev f T n rk rv) {σ' : sw_S} (h1 : σ.1 ≤ σ'.1) (h2 : ∀ c, c < σ.1 → σ'.2 c = σ.2 c) : wm x σ' F S Ek Ev f T n rk rv := by
  obtain ⟨g1, g2, g3, g4, g5⟩ := h
  exact ⟨by rw [h2 x (by omega)]; exact g1, g2.po h1 fun c hc _ => h2 c hc, g3.eq fun c hc => h2 c (by omega), g4.eq fun c hc => h2 c (by omega), Nat.lt_of_lt_of_le g5 h1⟩
/-- tokens have changed -/
theorem wm.tok (h : wm x σ F S Ek Ev f T n rk rv) {σ' : sw_S} {f' : Nat → Int32} {T' : Nat} (h1 : σ.1 ≤ σ'.1) (h2 : ∀ c, c < σ.1 → c ≠ x + 8 → c ≠ x + 9 → σ'.2 c = σ.2 c) (ht : ck_t (x + 8) f' T' σ') : wm x σ' F S Ek Ev f' T' n rk rv := by
  obtain ⟨g1, g2, g3, g4, g5⟩ := h
  exact ⟨by rw [h2 x (by omega) (by omega) (by omega)]; exact g1, g2.po h1 fun c hc hp => h2 c hc (fun e => hp (Or.inr (by omega))) (fun e => hp (Or.inr (by omega))), g3.tok (fun c hc => h2 c (by omega) (by omega) (by omega)) ht, g4.eq fun c hc => h2 c (by omega) (by omega) (by omega), Nat.lt_of_lt_of_le g5 h1⟩
/-- the checker has changed -/
theorem wm.chk (h : wm x σ F S Ek Ev f T n rk rv) {σ' : sw_S} (hf : ck_fr (x + 10) σ σ') (hc : ck_any (x + 10) (x + 8) F f T σ') : wm x σ' F S Ek Ev f T n rk rv := by
  obtain ⟨g1, g2, g3, g4, g5⟩ := h
  exact ⟨by rw [hf.2 x (by omega)]; exact g1, g2.po (Nat.le_of_eq hf.1.symm) fun c _ hp => hf.2 c (Nat.lt_or_ge c (x + 10) |>.elim Or.inl fun q => Or.inr (Nat.lt_of_not_le fun q2 => hp (Or.inr (by omega)))), hc, g4.eq fun c hc => hf.2 c (by omega), by rw [hf.1]; exact g5⟩
/-- rows have changed -/
theorem wm.row (h : wm x σ F S Ek Ev f T n rk rv) {σ' : sw_S} {n' : Nat} {rk' rv' : Nat → Int32} (hf : cr_fr (x + 16) σ σ') (hc : cr (x + 16) σ' n' rk' rv') : wm x σ' F S Ek Ev f T n' rk' rv' := by
  obtain ⟨g1, g2, g3, g4, g5⟩ := h
  exact ⟨by rw [hf.2 x (by omega)]; exact g1, g2.po (Nat.le_of_eq hf.1.symm) fun c _ hp => hf.2 c (Nat.lt_or_ge c (x + 16) |>.elim Or.inl fun q => Or.inr (Nat.lt_of_not_le fun q2 => hp (Or.inr (by omega)))), g3.eq fun c hc => hf.2 c (by omega), hc, by rw [hf.1]; exact g5⟩
end WM
/-- both, over one store each -/
def jn (x m0 : Nat) (n : Nat) (fc fm : Nat → Option sw_E) : Prop := ∃ F S c I Ar Aj f T L rk rv, fm = md_mk m0 I Ar Aj ∧ md_tr I Ar F S c ∧ wm x (n, fc) F S (Ar 1) (Ar 2) f T L rk rv ∧ T ≤ 240 ∧ I 12 = nI T ∧ (∀ i, i < T → f i = Ar 8 i) ∧ I 29 = nI L ∧ L ≤ 120 ∧ ∀ i, i < L → rk i = Ar 21 i ∧ rv i = Ar 22 i
/-- an answer of both, and what is left -/
def jr (x m0 : Nat) (n : Nat) (fm : Nat → Option sw_E) (rc : Option (Int32 × sw_S)) (rm : Nat → Option (Int32 × sw_S)) : Prop := ∃ r n' fc' fm', rc = some (r, (n', fc')) ∧ rm n' = some (r, (n', fm')) ∧ jn x m0 n' fc' fm'
def jv (rc rm : Option Int32) : Prop := ∃ r, rc = some r ∧ rm = some r
theorem sw_ix_cases (i : Int32) (T : Nat) (hT : T < 2 ^ 31) : (sw_ix i T = none ∧ (i < 0 ∨ nI T ≤ i)) ∨ ∃ j, j < T ∧ i = nI j ∧ sw_ix i T = some j := by
  by_cases h : i < 0
  · left
    refine ⟨?_, Or.inl h⟩
    unfold sw_ix
    rw [if_neg fun q => Int32.not_le.mpr h q.1]
  · obtain ⟨j, hj, rfl⟩ := nI_of h
    by_cases q : j < T
    · right
      exact ⟨j, q, rfl, sw_ix_nI q hT⟩
    · left
      refine ⟨?_, Or.inr (nI_le (by omega) hj)⟩
      unfold sw_ix
      rw [nI_clamp hj, if_neg fun w => q w.2]
/-- the reference's tree does not hang on tokens, rows, nodes read -/
theorem md_tr_8 {I : Nat → Int32} {Ar Ar' : Nat → Nat → Int32} {F : Nat} {S : pv_Sh} {c : Nat} (h : md_tr I Ar F S c) (he : ∀ t, t < 8 → Ar' t = Ar t) : md_tr I Ar' F S c := by
  unfold md_tr md_sh md_lv md_lab at h ⊢
  rw [he 1 (by decide), he 2 (by decide), he 3 (by decide), he 4 (by decide), he 5 (by decide), he 6 (by decide), he 7 (by decide)]
  exact h
theorem md_tr_12 {I I' : Nat → Int32} {Ar : Nat → Nat → Int32} {F : Nat} {S : pv_Sh} {c : Nat} (h : md_tr I Ar F S c) (he : ∀ t, t < 12 → I' t = I t) : md_tr I' Ar F S c := by
  unfold md_tr md_sh at h ⊢
  rw [he 0 (by decide), he 1 (by decide), he 2 (by decide), he 5 (by decide)]
  exact h
section JN
variable {x m0 n : Nat} {fc fm : Nat → Option sw_E}
theorem jn_put (h : jn x m0 n fc fm) (key v : Int32) : jr x m0 n fm (f_X7_put x key v (n, fc)) (fun n' => f_X8_put m0 key v (n', fm)) := by
  obtain ⟨F, S, c, I, Ar, Aj, f, T, L, rk, rv, rfl, ht, hw, r1, r2, r3, r4, r5, r6⟩ := h
  have hso := ht.2.2.2.2.2.2.1
  have hwf := ht.2.2.2.2.1
  have hc := ht.2.2.2.2.2.1
  unfold f_X7_put
  by_cases c1 : key < -9999
  · rw [if_pos c1]
    exact ⟨0, n, fc, md_mk m0 I Ar Aj, rfl, md_put_no (Or.inl c1), F, S, c, I, Ar, Aj, f, T, L, rk, rv, rfl, ht, hw, r1, r2, r3, r4, r5, r6⟩
  · rw [if_neg c1]
    by_cases c2 : key ≤ 9999
    · rw [if_pos c2, hw.r0, Option.bind_some, Option.bind_some]
      obtain ⟨L0, ob⟩ := hw.2.1.ob
      rw [ob, Option.bind_some]
      cases hf : pv_fd (Ar 1) c key with
      | none =>
        by_cases c3 : c < 60
        · obtain ⟨σ', e, z, t⟩ := cz_put_new (key := key) (v := v) hw.2.1 hwf c3 hso hf
          rw [e, cw_b2]
          obtain ⟨I', Ar', e1, e2, e3, e4, e5⟩ := md_put_new (n := σ'.1) (m0 := m0) (Aj := Aj) ht (key := key) (v := v) c1 c2 hf c3
          have hu := (pv_upF_le (Ar 1) key c 0).2.1
          refine ⟨1, σ'.1, σ'.2, md_mk m0 I' Ar' Aj, rfl, e1, F, _, _, I', Ar', Aj, f, T, L, rk, rv, rfl, e2, hw.tree (z.cg e2.2.2.2.2.1 fun p hp => ?_) t, r1, ?_, ?_, ?_, r5, ?_⟩
          · rw [e3, e4]
            exact ⟨pv_insA_ei (by omega) (by omega), pv_insA_ei (by omega) (by omega)⟩
          · rw [e5.1 12 (by decide) (by decide)]; exact r2
          · rw [e5.2 8 (by decide)]; exact r3
          · rw [e5.1 29 (by decide) (by decide)]; exact r4
          · rw [e5.2 21 (by decide), e5.2 22 (by decide)]; exact r6
        · have e60 : c = 60 := by omega
          subst e60
          obtain ⟨σ', e, z, t⟩ := cz_put_full (key := key) (v := v) hw.2.1 hwf hso hf
          rw [e, cw_b2]
          exact ⟨0, σ'.1, σ'.2, md_mk m0 I Ar Aj, rfl, md_put_full ht c1 c2 hf, F, S, 60, I, Ar, Aj, f, T, L, rk, rv, rfl, ht, hw.tree z t, r1, r2, r3, r4, r5, r6⟩
      | some p =>
        obtain ⟨σ', e, z, t⟩ := cz_put_old (key := key) (v := v) hw.2.1 hwf hc hso hf
        rw [e, cw_b2]
        obtain ⟨Ar', e1, e2, e3, e4, e5, e6⟩ := md_put_old (n := σ'.1) (m0 := m0) (Aj := Aj) ht (key := key) (v := v) c1 c2 hf
        refine ⟨2, σ'.1, σ'.2, md_mk m0 I Ar' Aj, rfl, e1, F, S, c, I, Ar', Aj, f, T, L, rk, rv, rfl, e2, hw.tree (by rw [e3, e4]; exact z) t, r1, r2, ?_, r4, r5, ?_⟩
        · rw [e6.2 8 (by decide)]; exact r3
        · rw [e6.2 21 (by decide), e6.2 22 (by decide)]; exact r6
    · rw [if_neg c2]
      exact ⟨0, n, fc, md_mk m0 I Ar Aj, rfl, md_put_no (Or.inr c2), F, S, c, I, Ar, Aj, f, T, L, rk, rv, rfl, ht, hw, r1, r2, r3, r4, r5, r6⟩
theorem jn_remove (h : jn x m0 n fc fm) (key : Int32) : jr x m0 n fm (f_X7_remove x key (n, fc)) (fun n' => f_X8_remove m0 key (n', fm)) := by
  obtain ⟨F, S, c, I, Ar, Aj, f, T, L, rk, rv, rfl, ht, hw, r1, r2, r3, r4, r5, r6⟩ := h
  have hso := ht.2.2.2.2.2.2.1
  have hwf := ht.2.2.2.2.1
  have hc := ht.2.2.2.2.2.1
  obtain ⟨L0, ob⟩ := hw.2.1.ob
  unfold f_X7_remove
  rw [hw.r0, Option.bind_some, Option.bind_some, ob, Option.bind_some]
  cases hf : pv_fd (Ar 1) c key with
  | none =>
    obtain ⟨σ', e, z, t⟩ := cz_rem_no (key := key) hw.2.1 hwf hc hso hf
    rw [e, cw_b2]
    exact ⟨0, σ'.1, σ'.2, md_mk m0 I Ar Aj, rfl, md_rem_no ht hf, F, S, c, I, Ar, Aj, f, T, L, rk, rv, rfl, ht, hw.tree z t, r1, r2, r3, r4, r5, r6⟩
  | some p =>
    obtain ⟨σ', e, z, t⟩ := cz_rem_yes (key := key) hw.2.1 hwf hc hso hf
    rw [e, cw_b2]
    obtain ⟨I', Ar', e1, e2, e3, e4, e5, e6⟩ := md_rem_yes (n := σ'.1) (m0 := m0) (Aj := Aj) ht (key := key) hf
    refine ⟨1, σ'.1, σ'.2, md_mk m0 I' Ar' Aj, rfl, e1, F, _, _, I', Ar', Aj, f, T, L, rk, rv, rfl, e3, hw.tree (z.cg e3.2.2.2.2.1 fun p' hp => ?_) t, r1, ?_, ?_, ?_, r5, ?_⟩
    · rw [e4, e5]
      exact ⟨pv_delA_ed (by omega), pv_delA_ed (by omega)⟩
    · rw [e6.1 12 (by decide) (by decide)]; exact r2
    · rw [e6.2 8 (by decide)]; exact r3
    · rw [e6.1 29 (by decide) (by decide)]; exact r4
    · rw [e6.2 21 (by decide), e6.2 22 (by decide)]; exact r6
theorem jn_get (h : jn x m0 n fc fm) (key : Int32) : ∃ r n' fc', f_X7_get x key (n, fc) = some (r, (n', fc')) ∧ f_X8_get m0 key (n', fm) = some r ∧ jn x m0 n' fc' fm := by
  obtain ⟨F, S, c, I, Ar, Aj, f, T, L, rk, rv, rfl, ht, hw, r1, r2, r3, r4, r5, r6⟩ := h
  obtain ⟨L0, ob⟩ := hw.2.1.ob
  obtain ⟨σ', e, z, t⟩ := cz_get (key := key) hw.2.1 ht.2.2.2.2.1 ht.2.2.2.2.2.1 ht.2.2.2.2.2.2.1
  refine ⟨_, σ'.1, σ'.2, ?_, md_get ht key, F, S, c, I, Ar, Aj, f, T, L, rk, rv, rfl, ht, hw.tree z t, r1, r2, r3, r4, r5, r6⟩
  unfold f_X7_get
  rw [hw.r0, Option.bind_some, Option.bind_some, ob, Option.bind_some, e, cw_b2]
  rfl
theorem jn_size (h : jn x m0 n fc fm) : jv (f_X7_size x (n, fc)) (f_X8_size m0 (n, fm)) := by
  obtain ⟨F, S, c, I, Ar, Aj, f, T, L, rk, rv, rfl, ht, hw, r1, r2, r3, r4, r5, r6⟩ := h
  obtain ⟨r, g1, g2, g3, g4⟩ := cz_size hw.2.1 ht.2.2.2.2.1 ht.2.2.2.2.2.1
  refine ⟨nI c, ?_, md_size ht⟩
  unfold f_X7_size
  rw [hw.r0, Option.bind_some, Option.bind_some, g1, Option.bind_some, Option.bind_some, g2, Option.bind_some]
theorem jn_height (h : jn x m0 n fc fm) : jv (f_X7_height x (n, fc)) (f_X8_height m0 (n, fm)) := by
  obtain ⟨F, S, c, I, Ar, Aj, f, T, L, rk, rv, rfl, ht, hw, r1, r2, r3, r4, r5, r6⟩ := h
  obtain ⟨r, g1, g2, g3, g4⟩ := cz_size hw.2.1 ht.2.2.2.2.1 ht.2.2.2.2.2.1
  refine ⟨nI S.1, ?_, md_height ht⟩
  unfold f_X7_height
  rw [hw.r0, Option.bind_some, Option.bind_some, g4, Option.bind_some]
theorem jn_root (h : jn x m0 n fc fm) : jv (f_X7_root x (n, fc)) (f_X8_root m0 (n, fm)) := by
  obtain ⟨F, S, c, I, Ar, Aj, f, T, L, rk, rv, rfl, ht, hw, r1, r2, r3, r4, r5, r6⟩ := h
  obtain ⟨r, g1, g2, g3, g4⟩ := cz_size hw.2.1 ht.2.2.2.2.1 ht.2.2.2.2.2.1
  refine ⟨pv_dg S.2.2 (Ar 1) (Ar 2) (S.1 - 1) 0, ?_, md_root ht⟩
  unfold f_X7_root
  rw [hw.r0, Option.bind_some, Option.bind_some, g1, Option.bind_some, Option.bind_some, g3, Option.bind_some]
theorem jn_within (h : jn x m0 n fc fm) (a b : Int32) : jv (f_X7_within x a b (n, fc)) (f_X8_within m0 a b (n, fm)) := by
  obtain ⟨F, S, c, I, Ar, Aj, f, T, L, rk, rv, rfl, ht, hw, r1, r2, r3, r4, r5, r6⟩ := h
  obtain ⟨L0, ob⟩ := hw.2.1.ob
  refine ⟨nI (pv_cnt (Ar 1) a b c), ?_, md_within ht a b⟩
  unfold f_X7_within
  rw [hw.r0, Option.bind_some, Option.bind_some, ob, Option.bind_some, cz_within hw.2.1 ht.2.2.2.2.1 ht.2.2.2.2.2.1, Option.bind_some]
theorem jn_has {F : Nat} {S : pv_Sh} {Ek Ev f : Nat → Int32} {T L : Nat} {rk rv : Nat → Int32} (hw : wm x (n, fc) F S Ek Ev f T L rk rv) (hT : T ≤ 240) (i : Int32) : f_X2_has (x + 8) i (n, fc) = some (match sw_ix i T with | some _ => 1 | none => 0) := by
  unfold f_X2_has
  rcases sw_ix_cases i T (by omega) with ⟨e, q⟩ | ⟨j, hj, rfl, e⟩
  · rw [e]
    by_cases c1 : i < 0
    · rw [if_pos c1]; rfl
    · rw [if_neg c1, hw.t.g1, Option.bind_some, if_pos (q.resolve_left c1)]; rfl
  · rw [e, if_neg (Int32.not_lt.mpr (nI_pos' (by omega))), hw.t.g1, Option.bind_some, if_neg (nI_ge hj (by omega))]; rfl
theorem jn_token (h : jn x m0 n fc fm) (i : Int32) : jv (f_X7_token x i (n, fc)) (f_X8_token m0 i (n, fm)) := by
  obtain ⟨F, S, c, I, Ar, Aj, f, T, L, rk, rv, rfl, ht, hw, r1, r2, r3, r4, r5, r6⟩ := h
  refine ⟨_, ?_, md_token ⟨r2, by omega⟩ i⟩
  unfold f_X7_token
  rw [hw.r1, Option.bind_some, Option.bind_some, hw.t.ob, Option.bind_some, jn_has hw r1, Option.bind_some]
  rcases sw_ix_cases i T (by omega) with ⟨e, q⟩ | ⟨j, hj, rfl, e⟩
  · rw [e]; rfl
  · rw [e]
    show (if (1 : Int32) = 0 then _ else _) = _
    rw [if_neg (by decide), Option.bind_some, Option.bind_some, hw.t.r0, Option.bind_some, Option.bind_some, hw.t.l (by omega), Option.bind_some, r3 j hj]
    rfl
theorem jn_alter (h : jn x m0 n fc fm) (i v : Int32) : jr x m0 n fm (f_X7_alter x i v (n, fc)) (fun n' => f_X8_alter m0 i v (n', fm)) := by
  obtain ⟨F, S, c, I, Ar, Aj, f, T, L, rk, rv, rfl, ht, hw, r1, r2, r3, r4, r5, r6⟩ := h
  unfold f_X7_alter
  rw [hw.r1, Option.bind_some, Option.bind_some, hw.t.ob, Option.bind_some, jn_has hw r1, Option.bind_some]
  rcases sw_ix_cases i T (by omega) with ⟨e, q⟩ | ⟨j, hj, rfl, e⟩
  · rw [e]
    refine ⟨0, n, fc, md_mk m0 I Ar Aj, rfl, ?_, F, S, c, I, Ar, Aj, f, T, L, rk, rv, rfl, ht, hw, r1, r2, r3, r4, r5, r6⟩
    show f_X8_alter m0 i v (n, md_mk m0 I Ar Aj) = _
    rw [md_alter ⟨r2, by omega⟩, e]
  · rw [e]
    have hs := hw.t.s (i := j) (by omega) v
    refine ⟨1, n, (sw_up (n, fc) (x + 8 + 1) (.inl (0, 240, .inl (upd f j v)))).2, md_mk m0 I (md_u Ar 8 j v) Aj, ?_, ?_, F, S, c, I, md_u Ar 8 j v, Aj, upd f j v, T, L, rk, rv, rfl, ?_, ?_, r1, r2, ?_, r4, r5, ?_⟩
    · show (if (1 : Int32) = 0 then _ else _) = _
      rw [if_neg (by decide), Option.bind_some, Option.bind_some, hw.t.r0, Option.bind_some, Option.bind_some, hs, Option.bind_some]
      rfl
    · show f_X8_alter m0 (nI j) v (n, md_mk m0 I Ar Aj) = _
      rw [md_alter ⟨r2, by omega⟩, e]
    · exact md_tr_8 ht (fun t ht => mu_r (by omega))
    · rw [mu_r (by decide), mu_r (by decide)]
      refine hw.tok (Nat.le_refl _) (fun c hc q1 q2 => ?_) ⟨?_, ?_⟩
      · simp only [sw_up]; rw [if_neg q2]
      · simp only [sw_up]; rw [if_neg (by omega)]; exact hw.t.1
      · simp only [sw_up]; rw [if_pos trivial]
    · intro i hi
      by_cases q : i = j
      · subst q; rw [pk_us, mu_e]
      · rw [pk_un q, mu_n (Or.inr q)]; exact r3 i hi
    · rw [mu_r (by decide), mu_r (by decide)]; exact r6
theorem jn_trim (h : jn x m0 n fc fm) (i : Int32) : jr x m0 n fm (f_X7_trim x i (n, fc)) (fun n' => f_X8_trim m0 i (n', fm)) := by
  obtain ⟨F, S, c, I, Ar, Aj, f, T, L, rk, rv, rfl, ht, hw, r1, r2, r3, r4, r5, r6⟩ := h
  unfold f_X7_trim
  have hbad : ¬ (0 ≤ i ∧ i ≤ nI T) → jr x m0 n (md_mk m0 I Ar Aj) (some (0, (n, fc))) (fun n' => f_X8_trim m0 i (n', md_mk m0 I Ar Aj)) := by
    intro q
    refine ⟨0, n, fc, md_mk m0 I Ar Aj, rfl, ?_, F, S, c, I, Ar, Aj, f, T, L, rk, rv, rfl, ht, hw, r1, r2, r3, r4, r5, r6⟩
    show f_X8_trim m0 i (n, md_mk m0 I Ar Aj) = _
    rw [md_trim ⟨r2, by omega⟩, if_neg q]
  by_cases c1 : i < 0
  · rw [if_pos c1]
    exact hbad fun q => Int32.not_le.mpr c1 q.1
  · rw [if_neg c1, hw.r1, Option.bind_some, Option.bind_some, hw.t.g1, Option.bind_some]
    by_cases c2 : i ≤ nI T
    · obtain ⟨j, hj, rfl⟩ := nI_of c1
      have hjT : j ≤ T := (nI_leI hj (by omega)).mp c2
      rw [if_pos c2, Option.bind_some, Option.bind_some]
      have hs : sw_pt 2 (x + 8) 1 (.int (nI j)) (n, fc) = some (sw_up (n, fc) (x + 8) (.inr (2, [.ref (x + 8 + 1), .int (nI j)]))) := by
        unfold sw_pt; rw [hw.t.ob]; rfl
      rw [hs, Option.bind_some]
      refine ⟨1, n, (sw_up (n, fc) (x + 8) (.inr (2, [.ref (x + 8 + 1), .int (nI j)]))).2, md_mk m0 (upd I 12 (nI j)) Ar Aj, rfl, ?_, F, S, c, upd I 12 (nI j), Ar, Aj, f, j, L, rk, rv, rfl, ?_, ?_, by omega, pk_us, fun i hi => r3 i (by omega), by rw [pk_un (by decide)]; exact r4, r5, r6⟩
      · show f_X8_trim m0 (nI j) (n, md_mk m0 I Ar Aj) = _
        rw [md_trim ⟨r2, by omega⟩, if_pos ⟨nI_pos' hj, c2⟩]
      · exact md_tr_12 ht (fun t ht => pk_un (by omega))
      · refine hw.tok (Nat.le_refl _) (fun c hc q1 q2 => ?_) ⟨?_, ?_⟩
        · simp only [sw_up]; rw [if_neg q1]
        · simp only [sw_up]; rw [if_pos trivial]
        · simp only [sw_up]; rw [if_neg (by omega)]; exact hw.t.2
    · rw [if_neg c2]
      exact hbad fun q => c2 q.2
theorem jn_row (h : jn x m0 n fc fm) (i j : Int32) : jv (f_X7_row x i j (n, fc)) (f_X8_row m0 i j (n, fm)) := by
  obtain ⟨F, S, c, I, Ar, Aj, f, T, L, rk, rv, rfl, ht, hw, r1, r2, r3, r4, r5, r6⟩ := h
  refine ⟨_, ?_, md_row ⟨r4, by omega⟩ i j⟩
  unfold f_X7_row
  have hr := hw.2.2.2.1
  rcases sw_ix_cases i L (by omega) with ⟨e, q⟩ | ⟨k, hk, rfl, e⟩
  · rw [e]
    by_cases c1 : i < 0
    · rw [if_pos c1]; rfl
    · rw [if_neg c1, hw.r3, Option.bind_some, Option.bind_some, hr.g2, Option.bind_some, if_neg (Int32.not_lt.mpr (q.resolve_left c1))]; rfl
  · rw [e, if_neg (Int32.not_lt.mpr (nI_pos' (by omega))), hw.r3, Option.bind_some, Option.bind_some, hr.g2, Option.bind_some, if_pos (nI_lt hk (by omega))]
    show _ = some (if j = 0 then Ar 21 k else if j = 1 then Ar 22 k else 0)
    by_cases c1 : j = 0
    · rw [if_pos c1, if_pos c1, Option.bind_some, Option.bind_some, hr.r0, Option.bind_some, Option.bind_some, hr.l1 (by omega), Option.bind_some, (r6 k hk).1]
    · rw [if_neg c1, if_neg c1]
      by_cases c2 : j = 1
      · rw [if_pos c2, if_pos c2, Option.bind_some, Option.bind_some, hr.r1, Option.bind_some, Option.bind_some, hr.l2 (by omega), Option.bind_some, (r6 k hk).2]
      · rw [if_neg c2, if_neg c2]
theorem jn_digest (a b c d : Int32) (σ σ' : sw_S) : jv (f_X7_digest x a b c d σ) (f_X8_digest m0 a b c d σ') := ⟨_, rfl, rfl⟩
end JN
