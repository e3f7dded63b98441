/-! THE CLASS WRITES A PROOF -/
def pw_s (po pv qu : Nat) (a b cn : Int32) (σ : sw_S) (f : Nat → Int32) (T : Nat) : Prop := σ.2 po = some (.inr (2, [.ref (po + 1), .int (nI T)])) ∧ σ.2 (po + 1) = some (.inl (0, 240, .inl f)) ∧ σ.2 pv = some (.inr (3, [.ref po, .ref qu])) ∧ σ.2 qu = some (.inr (4, [.int a, .int b, .int cn]))
def pw (N : Nat) (P : Nat → Prop) (H : pv_H) (po pv qu : Nat) (a b cn : Int32) (σ : sw_S) (L : List Int32) : Prop := pv_NS N P σ H ∧ ∃ f, pw_s po pv qu a b cn σ f L.length ∧ tk f L
def pw_fr (po : Nat) (σ σ' : sw_S) : Prop := σ'.1 = σ.1 ∧ ∀ c, c ≠ po → c ≠ po + 1 → σ'.2 c = σ.2 c
theorem pw_fr.rf {po : Nat} {σ : sw_S} : pw_fr po σ σ := ⟨rfl, fun _ _ _ => rfl⟩
theorem pw_fr.tr {po : Nat} {σ σ1 σ2 : sw_S} (h : pw_fr po σ σ1) (h2 : pw_fr po σ1 σ2) : pw_fr po σ σ2 := ⟨h2.1.trans h.1, fun c h3 h4 => (h2.2 c h3 h4).trans (h.2 c h3 h4)⟩
/-- append to the token row alone -/
theorem pt_app {po : Nat} {σ : sw_S} {f : Nat → Int32} {T : Nat} (h1 : σ.2 po = some (.inr (2, [.ref (po + 1), .int (nI T)]))) (h2 : σ.2 (po + 1) = some (.inl (0, 240, .inl f))) (hT : T < 240) (x : Int32) :
    f_X2_append po x σ = some (sw_up (sw_up σ (po + 1) (.inl (0, 240, .inl (upd f T x)))) po (.inr (2, [.ref (po + 1), .int (nI (T + 1))]))) := by
  have ho : sw_ob 2 po σ = some [.ref (po + 1), .int (nI T)] := by simp [sw_ob, h1]
  have hg : sw_gI 2 po 1 σ = some (nI T) := by unfold sw_gI; rw [ho]; rfl
  have hr : sw_gR 2 po 0 σ = some (some (po + 1)) := by unfold sw_gR; rw [ho]; rfl
  have hl : sw_len (po + 1) σ = some (nI 240) := by simp [sw_len, h2]; rfl
  have ha : sw_as 0 (po + 1) (nI T) x σ = some (sw_up σ (po + 1) (.inl (0, 240, .inl (upd f T x)))) := by simp [sw_as, sw_ai, h2, sw_ix_nI hT (by decide)]
  have ho2 : sw_ob 2 po (sw_up σ (po + 1) (.inl (0, 240, .inl (upd f T x)))) = some [.ref (po + 1), .int (nI T)] := by
    simp [sw_ob, sw_up, h1]
  have hg2 : sw_gI 2 po 1 (sw_up σ (po + 1) (.inl (0, 240, .inl (upd f T x)))) = some (nI T) := by unfold sw_gI; rw [ho2]; rfl
  unfold f_X2_append
  rw [hg, Option.bind_some, hr, Option.bind_some, Option.bind_some, hl, Option.bind_some, if_neg (nI_ge hT (by decide)), Option.bind_some, Option.bind_some, Option.bind_some, ha, Option.bind_some, hg2, Option.bind_some, nI_1]
  unfold sw_pt
  rw [ho2]
  rfl
section PW
variable {N : Nat} {P : Nat → Prop} {H : pv_H} {po pv qu : Nat} {a b cn : Int32} {σ : sw_S} {L : List Int32}
theorem pw.g (h : pw N P H po pv qu a b cn σ L) : sw_gR 3 pv 0 σ = some (some po) ∧ sw_gR 3 pv 1 σ = some (some qu) ∧ sw_ob 2 po σ = some [.ref (po + 1), .int (nI L.length)] ∧ sw_ob 3 pv σ = some [.ref po, .ref qu] ∧ sw_ob 4 qu σ = some [.int a, .int b, .int cn] := by
  obtain ⟨-, f, ⟨h1, h2, h3, h4⟩, -⟩ := h
  have o3 : sw_ob 3 pv σ = some [.ref po, .ref qu] := by simp [sw_ob, h3]
  refine ⟨?_, ?_, by simp [sw_ob, h1], o3, by simp [sw_ob, h4]⟩
  · unfold sw_gR; rw [o3]; rfl
  · unfold sw_gR; rw [o3]; rfl
theorem pw.app (hP : P po ∧ P (po + 1)) (hd : (pv ≠ po ∧ pv ≠ po + 1) ∧ qu ≠ po ∧ qu ≠ po + 1) (h : pw N P H po pv qu a b cn σ L) (hL : L.length < 240) (x : Int32) : ∃ σ', f_X2_append po x σ = some σ' ∧ pw N P H po pv qu a b cn σ' (L ++ [x]) ∧ pw_fr po σ σ' := by
  obtain ⟨hn, f, ⟨h1, h2, h3, h4⟩, ht⟩ := h
  refine ⟨_, pt_app h1 h2 hL x, ⟨ct_NS (ct_NS hn hP.2 _) hP.1 _, upd f L.length x, ⟨?_, ?_, ?_, ?_⟩, ht.app x⟩, rfl, fun c hc1 hc2 => ?_⟩
  · simp [sw_up]
  · simp [sw_up]
  · simp only [sw_up]; rw [if_neg hd.1.1, if_neg hd.1.2]; exact h3
  · simp only [sw_up]; rw [if_neg hd.2.1, if_neg hd.2.2]; exact h4
  · simp only [sw_up]; rw [if_neg hc1, if_neg hc2]
theorem pw.out (hP : P po ∧ P (po + 1)) (hd : (pv ≠ po ∧ pv ≠ po + 1) ∧ qu ≠ po ∧ qu ≠ po + 1) (h : pw N P H po pv qu a b cn σ L) {x : Nat} {lf sz le co di : Int32} {s : pv_s} (hx : H x = some (lf, s, sz, le, co, di)) (hL : L.length + 4 ≤ 240) : ∃ σ', f_X3_writeLeftOut pv x σ = some σ' ∧ pw N P H po pv qu a b cn σ' (L ++ [0, le, di, co]) ∧ pw_fr po σ σ' := by
  obtain ⟨σ1, e1, w1, t1⟩ := h.app hP hd (by omega) 0
  obtain ⟨σ2, e2, w2, t2⟩ := w1.app hP hd (by simp; omega) le
  obtain ⟨σ3, e3, w3, t3⟩ := w2.app hP hd (by simp; omega) di
  obtain ⟨σ4, e4, w4, t4⟩ := w3.app hP hd (by simp; omega) co
  refine ⟨σ4, ?_, ?_, ((t1.tr t2).tr t3).tr t4⟩
  · unfold f_X3_writeLeftOut
    rw [h.g.1, Option.bind_some, Option.bind_some, h.g.2.2.1, Option.bind_some, e1, Option.bind_some, w1.g.1, Option.bind_some, pv_g5 w1.1 hx, Option.bind_some, Option.bind_some, w1.g.2.2.1, Option.bind_some, e2, Option.bind_some, w2.g.1, Option.bind_some, pv_g7 w2.1 hx, Option.bind_some, Option.bind_some, w2.g.2.2.1, Option.bind_some, e3, Option.bind_some, w3.g.1, Option.bind_some, pv_g6 w3.1 hx, Option.bind_some, Option.bind_some, w3.g.2.2.1, Option.bind_some, e4, Option.bind_some]
  · simpa using w4
theorem pw.leaf (hP : P po ∧ P (po + 1)) (hd : (pv ≠ po ∧ pv ≠ po + 1) ∧ qu ≠ po ∧ qu ≠ po + 1) {x n : Nat} {lf le co di : Int32} {s : pv_s} (hx : H x = some (lf, s, nI n, le, co, di)) (hn : n ≤ N) (hN : N < 1000) : ∀ (r i fuel : Nat) {σ : sw_S} {L : List Int32}, i + r = n → r < fuel → pw N P H po pv qu a b cn σ L → (L ++ pr_c (fun j => [(s j).1, (s j).2.1]) i r).length ≤ 240 →
    ∃ σ', b_X3_writeLeaf_21 fuel pv x (nI i) σ = some σ' ∧ pw N P H po pv qu a b cn σ' (L ++ pr_c (fun j => [(s j).1, (s j).2.1]) i r) ∧ pw_fr po σ σ' := by
  intro r
  induction r with
  | zero =>
    intro i fuel σ L hi hf h hL
    obtain ⟨f, rfl⟩ : ∃ f, fuel = f + 1 := ⟨fuel - 1, by omega⟩
    refine ⟨σ, ?_, by simpa [pr_c] using h, pw_fr.rf⟩
    show B_X3_writeLeaf_21 _ _ _ _ _ = _
    unfold B_X3_writeLeaf_21
    rw [pv_g4 h.1 hx, Option.bind_some, if_pos (nI_le (by omega) (by omega))]
  | succ r ih =>
    intro i fuel σ L hi hf h hL
    obtain ⟨f, rfl⟩ : ∃ f, fuel = f + 1 := ⟨fuel - 1, by omega⟩
    simp only [pr_c, List.length_append, List.length_cons, List.length_nil] at hL
    obtain ⟨σ1, e1, w1, t1⟩ := h.app hP hd (by omega) (s i).1
    obtain ⟨σ2, e2, w2, t2⟩ := w1.app hP hd (by simp; omega) (s i).2.1
    obtain ⟨σ3, e3, w3, t3⟩ := ih (i + 1) f (by omega) (by omega) w2 (by simp; omega)
    refine ⟨σ3, ?_, by simpa [pr_c] using w3, (t1.tr t2).tr t3⟩
    show B_X3_writeLeaf_21 _ _ _ _ _ = _
    unfold B_X3_writeLeaf_21
    rw [pv_g4 h.1 hx, Option.bind_some, if_neg (nI_ge (by omega) (by omega)), h.g.1, Option.bind_some, pv_r1 h.1 hx, Option.bind_some, Option.bind_some, pv_a1 h.1 hx (by omega), Option.bind_some, Option.bind_some, h.g.2.2.1, Option.bind_some, e1, Option.bind_some, w1.g.1, Option.bind_some, pv_r2 w1.1 hx, Option.bind_some, Option.bind_some, pv_a2 w1.1 hx (by omega), Option.bind_some, Option.bind_some, w1.g.2.2.1, Option.bind_some, e2, Option.bind_some, nI_1]
    exact e3
end PW
theorem pr_c_congr {g g' : Nat → List Int32} : ∀ (r j : Nat), (∀ i, j ≤ i → i < j + r → g i = g' i) → pr_c g j r = pr_c g' j r := by
  intro r
  induction r with
  | zero => intro j _; rfl
  | succ r ih => intro j h; simp only [pr_c]; rw [h j (by omega) (by omega), ih (j + 1) (fun i h1 h2 => h i (by omega) (by omega))]
section PX
variable {N : Nat} {P : Nat → Prop} {H : pv_H} {po pv qu : Nat} {a b cn : Int32} {F c : Nat} {S : pv_Sh} {Ek Ev : Nat → Int32} {A : Nat → Nat → Nat} {Lb : cp_L}
theorem pw_write (hP : P po ∧ P (po + 1)) (hd : (pv ≠ po ∧ pv ≠ po + 1) ∧ qu ≠ po ∧ qu ≠ po + 1) (hcp : cp H A Lb S Ek Ev) (hw : pv_wf F S c) (hc : c ≤ 60) (hla : cp_la S Ek Ev Lb) (hN : N = F + 1) : ∀ (l d : Nat) {k : Nat} {fr en : Int64} {σ : sw_S} {L : List Int32}, l < S.1 → l < d → k < S.2.1 l → pr_ok en → pw N P H po pv qu a b cn σ L → (L ++ pr_f (pr_q a b cn) S.2.2 Ek Ev l k fr en).length ≤ 240 →
    ∃ σ', f_X3_write d pv (A l k) fr en (nI (S.1 - l)) σ = some σ' ∧ pw N P H po pv qu a b cn σ' (L ++ pr_f (pr_q a b cn) S.2.2 Ek Ev l k fr en) ∧ pw_fr po σ σ' := by
  have hF := hw.2.1
  have hS5 := ((hw.x 0 0).cnt (by omega)).1
  have hlab := hla.lab hw (by omega)
  intro l
  induction l with
  | zero =>
    intro d k fr en σ L hl hd' hk he h hL
    obtain ⟨f, rfl⟩ : ∃ f, d = f + 1 := ⟨d - 1, by omega⟩
    obtain ⟨s, h1, -, h3⟩ := hcp.1 0 k hl hk
    have hz := hw.2.2.2.2.2.2.2.1 0 k hl hk
    have ec : pr_c (fun j => [Ek (pv_sum (S.2.2 0) k + j), Ev (pv_sum (S.2.2 0) k + j)]) 0 (S.2.2 0 k) = pr_c (fun j => [(s j).1, (s j).2.1]) 0 (S.2.2 0 k) := pr_c_congr _ _ (fun i _ hi => by rw [(h3 i (by omega)).1 rfl])
    have ef : pr_f (pr_q a b cn) S.2.2 Ek Ev 0 k fr en = 1 :: nI (S.2.2 0 k) :: pr_c (fun j => [(s j).1, (s j).2.1]) 0 (S.2.2 0 k) := by rw [← ec]; rfl
    rw [ef] at hL ⊢
    simp only [List.length_append, List.length_cons] at hL
    obtain ⟨σ1, e1, w1, t1⟩ := h.app hP hd (by omega) 1
    obtain ⟨σ2, e2, w2, t2⟩ := w1.app hP hd (by simp; omega) (nI (S.2.2 0 k))
    obtain ⟨σ3, e3, w3, t3⟩ := pw.leaf hP hd h1 (by omega) (by omega) (S.2.2 0 k) 0 1000 (by omega) (by omega) w2 (by simp; omega)
    refine ⟨σ3, ?_, by simpa using w3, (t1.tr t2).tr t3⟩
    show fr_X3_write _ _ _ _ _ _ _ = _
    unfold fr_X3_write
    rw [pv_g0 h.1 h1, Option.bind_some, if_pos rfl, if_neg (by decide), h.g.2.2.2.1, Option.bind_some]
    unfold f_X3_writeLeaf
    rw [h.g.1, Option.bind_some, Option.bind_some, h.g.2.2.1, Option.bind_some, e1, Option.bind_some, w1.g.1, Option.bind_some, pv_g4 w1.1 h1, Option.bind_some, Option.bind_some, w1.g.2.2.1, Option.bind_some, e2, Option.bind_some]
    rw [show (0 : Int32) = nI 0 from rfl, e3, Option.bind_some]; rfl
  | succ l ih =>
    intro d k fr en σ L hl hd' hk he h hL
    obtain ⟨f, rfl⟩ : ∃ f, d = f + 1 := ⟨d - 1, by omega⟩
    obtain ⟨s, h1, -, h3⟩ := hcp.1 (l + 1) k hl hk
    have hz := hw.2.2.2.2.2.2.2.1 (l + 1) k hl hk
    have hs : ∀ j, j < S.2.2 (l + 1) k → (s j).2.2 = some (A l (pv_sum (S.2.2 (l + 1)) k + j)) := fun j hj => (h3 j hj).2 (by omega)
    have hkid : ∀ j, j < S.2.2 (l + 1) k → pv_sum (S.2.2 (l + 1)) k + j < S.2.1 l := fun j hj => hw.sumC hl hk hj
    have hkn : ∀ j, j < S.2.2 (l + 1) k → ∃ s', H (A l (pv_sum (S.2.2 (l + 1)) k + j)) = some ((if l = 0 then 1 else 0), s', nI (S.2.2 l (pv_sum (S.2.2 (l + 1)) k + j)), Ek (pv_fi S.2.2 l (pv_sum (S.2.2 (l + 1)) k + j)), pv_cn S.2.2 l (pv_sum (S.2.2 (l + 1)) k + j), pv_dg S.2.2 Ek Ev l (pv_sum (S.2.2 (l + 1)) k + j)) := by
      intro j hj
      obtain ⟨s', q1, -⟩ := hcp.1 l _ (by omega) (hkid j hj)
      obtain ⟨r1, r2, r3⟩ := hlab l (by omega) _ (hkid j hj)
      have := hw.pos (l := l) (by omega) (hkid j hj) (by omega)
      rw [r1 (by omega), r2, r3] at q1
      exact ⟨s', q1⟩
    rw [pr_f_s] at hL ⊢
    have hloop : ∀ (r j fuel : Nat) {σ : sw_S} {L : List Int32}, j + r = S.2.2 (l + 1) k → r < fuel → pw N P H po pv qu a b cn σ L → (L ++ pr_c (pr_g (pr_q a b cn) S.2.2 Ek Ev l k fr en) j r).length ≤ 240 → ∃ σ', b_X3_writeInner_22 (f_X3_write f) fuel pv (A (l + 1) k) fr en (nI (S.1 - (l + 1))) (nI j) σ = some σ' ∧ pw N P H po pv qu a b cn σ' (L ++ pr_c (pr_g (pr_q a b cn) S.2.2 Ek Ev l k fr en) j r) ∧ pw_fr po σ σ' := by
      intro r
      induction r with
      | zero =>
        intro j fuel σ L hj hf h hL
        obtain ⟨f', rfl⟩ : ∃ f, fuel = f + 1 := ⟨fuel - 1, by omega⟩
        refine ⟨σ, ?_, by simpa [pr_c] using h, pw_fr.rf⟩
        show B_X3_writeInner_22 _ _ _ _ _ _ _ _ _ = _
        unfold B_X3_writeInner_22
        rw [pv_g4 h.1 h1, Option.bind_some, if_pos (nI_le (by omega) (by omega))]
      | succ r ihr =>
        intro j fuel σ L hj hf h hL
        obtain ⟨f', rfl⟩ : ∃ f, fuel = f + 1 := ⟨fuel - 1, by omega⟩
        obtain ⟨s', hk1⟩ := hkn j (by omega)
        have hce : pr_ok (pr_ce S.2.2 Ek l (pv_sum (S.2.2 (l + 1)) k) (S.2.2 (l + 1) k) en j) := by
          unfold pr_ce
          by_cases q : j + 1 < S.2.2 (l + 1) k
          · rw [if_pos q]; exact pr_ok_i _
          · rw [if_neg q]; exact he
        simp only [pr_c, List.length_append] at hL
        -- the child is written
        have hone : ∃ σ1, (if pr_q a b cn (pr_cf S.2.2 Ek l (pv_sum (S.2.2 (l + 1)) k) fr j) (pr_ce S.2.2 Ek l (pv_sum (S.2.2 (l + 1)) k) (S.2.2 (l + 1) k) en j) = true then f_X3_writeLeftOut pv (A l (pv_sum (S.2.2 (l + 1)) k + j)) σ else f_X3_write f pv (A l (pv_sum (S.2.2 (l + 1)) k + j)) (pr_cf S.2.2 Ek l (pv_sum (S.2.2 (l + 1)) k) fr j) (pr_ce S.2.2 Ek l (pv_sum (S.2.2 (l + 1)) k) (S.2.2 (l + 1) k) en j) (nI (S.1 - l)) σ) = some σ1 ∧ pw N P H po pv qu a b cn σ1 (L ++ pr_g (pr_q a b cn) S.2.2 Ek Ev l k fr en j) ∧ pw_fr po σ σ1 := by
          unfold pr_g at hL ⊢
          by_cases q : pr_q a b cn (pr_cf S.2.2 Ek l (pv_sum (S.2.2 (l + 1)) k) fr j) (pr_ce S.2.2 Ek l (pv_sum (S.2.2 (l + 1)) k) (S.2.2 (l + 1) k) en j) = true
          · rw [if_pos q] at hL ⊢
            rw [if_pos q]
            exact h.out hP hd hk1 (by simp only [pr_lo, List.length_cons, List.length_nil] at hL; omega)
          · rw [if_neg q] at hL ⊢
            rw [if_neg q]
            exact ih f (by omega) (by omega) (hkid j (by omega)) hce h (by rw [List.length_append]; omega)
        obtain ⟨σ1, e1, w1, t1⟩ := hone
        obtain ⟨σ2, e2, w2, t2⟩ := ihr (j + 1) f' (by omega) (by omega) w1 (by simp only [List.length_append]; omega)
        refine ⟨σ2, ?_, by rw [pr_c, ← List.append_assoc]; exact w2, t1.tr t2⟩
        have h86 : b_X3_writeInner_86 (f_X3_write f) (b_X3_writeInner_22 (f_X3_write f) f') pv (A (l + 1) k) fr en (nI (S.1 - (l + 1))) (nI j) (some (A l (pv_sum (S.2.2 (l + 1)) k + j))) (pr_cf S.2.2 Ek l (pv_sum (S.2.2 (l + 1)) k) fr j) (pr_ce S.2.2 Ek l (pv_sum (S.2.2 (l + 1)) k) (S.2.2 (l + 1) k) en j) σ = some σ2 := by
          unfold b_X3_writeInner_86
          obtain ⟨-, f0, ⟨-, -, -, hq4⟩, -⟩ := id h
          rw [h.g.2.1, Option.bind_some, Option.bind_some, h.g.2.2.2.2, Option.bind_some, pr_leaves hq4 _ hce, Option.bind_some]
          by_cases q : pr_q a b cn (pr_cf S.2.2 Ek l (pv_sum (S.2.2 (l + 1)) k) fr j) (pr_ce S.2.2 Ek l (pv_sum (S.2.2 (l + 1)) k) (S.2.2 (l + 1) k) en j) = true
          · rw [if_pos q] at e1
            rw [if_pos q, if_neg (by decide), Option.bind_some, h.g.2.2.2.1, Option.bind_some, e1, Option.bind_some]
            unfold b_X3_writeInner_125
            rw [nI_1]; exact e2
          · rw [if_neg q] at e1
            rw [if_neg q, if_pos rfl, Option.bind_some, h.g.2.2.2.1, Option.bind_some, nI_1, show S.1 - (l + 1) + 1 = S.1 - l by omega, e1, Option.bind_some]
            unfold b_X3_writeInner_125
            rw [nI_1]; exact e2
        have h55 : b_X3_writeInner_55 (f_X3_write f) (b_X3_writeInner_22 (f_X3_write f) f') pv (A (l + 1) k) fr en (nI (S.1 - (l + 1))) (nI j) (some (A l (pv_sum (S.2.2 (l + 1)) k + j))) (pr_cf S.2.2 Ek l (pv_sum (S.2.2 (l + 1)) k) fr j) σ = some σ2 := by
          unfold b_X3_writeInner_55
          rw [pv_g4 h.1 h1, Option.bind_some, nI_1]
          unfold pr_ce at h86
          by_cases q : j + 1 < S.2.2 (l + 1) k
          · obtain ⟨s2, hk2⟩ := hkn (j + 1) q
            rw [if_pos q] at h86
            rw [if_neg (nI_ge q (by omega)), pv_r3 h.1 h1, Option.bind_some, Option.bind_some, pv_a3 h.1 h1 (by omega), Option.bind_some, hs _ q, Option.bind_some, pv_g5 h.1 hk2, Option.bind_some]
            exact h86
          · rw [if_neg q] at h86
            rw [if_pos (nI_le (by omega) (by omega))]
            exact h86
        show B_X3_writeInner_22 _ _ _ _ _ _ _ _ _ = _
        unfold B_X3_writeInner_22
        rw [pv_g4 h.1 h1, Option.bind_some, if_neg (nI_ge (by omega) (by omega)), pv_r3 h.1 h1, Option.bind_some, Option.bind_some, pv_a3 h.1 h1 (by omega), Option.bind_some, hs j (by omega)]
        unfold pr_cf at h55
        by_cases q : j = 0
        · rw [if_pos q] at h55
          rw [if_pos (by rw [q]; rfl)]
          exact h55
        · rw [if_neg q] at h55
          rw [if_neg (nI_ne0 (by omega) (by omega)), Option.bind_some, pv_g5 h.1 hk1, Option.bind_some]
          exact h55
    simp only [List.length_append, List.length_cons] at hL
    obtain ⟨σ1, e1, w1, t1⟩ := h.app hP hd (by omega) 2
    obtain ⟨σ2, e2, w2, t2⟩ := w1.app hP hd (by simp; omega) (nI (S.2.2 (l + 1) k))
    obtain ⟨σ3, e3, w3, t3⟩ := hloop (S.2.2 (l + 1) k) 0 1000 (by omega) (by omega) w2 (by simp; omega)
    refine ⟨σ3, ?_, by simpa using w3, (t1.tr t2).tr t3⟩
    show fr_X3_write _ _ _ _ _ _ _ = _
    unfold fr_X3_write
    rw [pv_g0 h.1 h1, Option.bind_some, if_neg (by omega : ¬ l + 1 = 0), if_pos rfl, if_neg (show ¬ (6 : Int32) ≤ nI (S.1 - (l + 1)) from nI_ge (show S.1 - (l + 1) < 6 by omega) (by decide)), h.g.2.2.2.1, Option.bind_some]
    unfold f_X3_writeInner
    rw [h.g.1, Option.bind_some, Option.bind_some, h.g.2.2.1, Option.bind_some, e1, Option.bind_some, w1.g.1, Option.bind_some, pv_g4 w1.1 h1, Option.bind_some, Option.bind_some, w1.g.2.2.1, Option.bind_some, e2, Option.bind_some]
    rw [show (0 : Int32) = nI 0 from rfl, e3, Option.bind_some]; rfl
end PX
