/-! THE REFERENCE'S check AND count -/
section RCC
variable {f : Nat → Int32} {T : Nat} {G : Nat → ps_N} {R : ps_R} {N m0 : Nat}
/-- what a node that is left out adds -/
def co (a b : Int32) (G : Nat → ps_N) (K : List ps_K) (y : Nat) : Int32 := if nk (G y) = 0 ∧ kh a b (kF K (nb (G y))) (kE K (ne (G y))) then (nl (G y)).2.2 else 0
theorem fw_total (hw : fw f T G R) (a b : Int32) : ∀ x, x ≤ R.2.2.1.length → pv_it (fun j s => s + kc a b R.2.1 j) (kx G R x) 0 = nI (kR a b R.2.1 (kx G R x)).length + pv_it (fun y s => s + co a b G R.2.1 y) x 0 := by
  obtain ⟨w1, w2, w3, w4, w5, w6, w7, w8, w9, w10, w11⟩ := id hw
  intro x
  induction x with
  | zero => intro _; rw [kx_0 hw]; rfl
  | succ x ih =>
    intro hx
    have ih1 := ih (by omega)
    have hs := kx_s hw (x := x) (by omega)
    have ex : kx G R x = nb (G x) := by unfold kx; rw [if_pos (by omega)]
    have eB : pv_it (fun y s => s + co a b G R.2.1 y) (x + 1) 0 = pv_it (fun y s => s + co a b G R.2.1 y) x 0 + co a b G R.2.1 x := rfl
    rw [eB]
    generalize pv_it (fun y s => s + co a b G R.2.1 y) x 0 = B at ih1 ⊢
    rw [hs, ex]
    rw [ex] at ih1
    obtain ⟨f1, f2, f3, f4⟩ := (w1 x (by omega)).1
    by_cases k0 : nk (G x) = 0
    · have eo : ow (G x) = 1 := by unfold ow; rw [if_pos k0]
      obtain ⟨g1, g2⟩ := f2 k0
      rw [eo]
      have e1 : pv_it (fun j s => s + kc a b R.2.1 j) (nb (G x) + 1) 0 = pv_it (fun j s => s + kc a b R.2.1 j) (nb (G x)) 0 + kc a b R.2.1 (nb (G x)) := rfl
      have e2 : kR a b R.2.1 (nb (G x) + 1) = kR a b R.2.1 (nb (G x)) := by
        show kR a b R.2.1 (nb (G x)) ++ (if kw a b (kk R.2.1 (nb (G x))) then _ else []) = _
        rw [g2, if_neg (fun q => by have := q.1; cases this), List.append_nil]
      have e3 : kc a b R.2.1 (nb (G x)) = co a b G R.2.1 x := by
        unfold kc co
        rw [g2, g1, if_neg (fun q => by have := q.1; cases this)]
        by_cases q : kh a b (kF R.2.1 (nb (G x))) (kE R.2.1 (nb (G x) + 1))
        · rw [if_pos ⟨(by decide : (1 : Int32) ≠ 0), q⟩, if_pos ⟨k0, q⟩]
        · rw [if_neg (fun w => q w.2), if_neg (fun w => q w.2)]
      rw [e1, e2, e3, ih1, Int32.add_assoc]
    · have eco : co a b G R.2.1 x = 0 := by unfold co; rw [if_neg (fun w => k0 w.1)]
      rw [eco, Int32.add_zero]
      by_cases k1 : nk (G x) = 1
      · have eo : ow (G x) = nz (G x) := by unfold ow; rw [if_neg k0, if_pos k1]
        rw [eo]
        obtain ⟨g1, g2, g3, g4, g5⟩ := f3 k1
        have key : ∀ j, j ≤ nz (G x) → pv_it (fun j s => s + kc a b R.2.1 j) (nb (G x) + j) 0 = nI (kR a b R.2.1 (nb (G x) + j)).length + B := by
          intro j
          induction j with
          | zero => intro _; exact ih1
          | succ j ihj =>
            intro hj
            have h1 := ihj (by omega)
            have e1 : pv_it (fun j s => s + kc a b R.2.1 j) (nb (G x) + (j + 1)) 0 = pv_it (fun j s => s + kc a b R.2.1 j) (nb (G x) + j) 0 + kc a b R.2.1 (nb (G x) + j) := rfl
            have e2 : kR a b R.2.1 (nb (G x) + (j + 1)) = kR a b R.2.1 (nb (G x) + j) ++ (if kw a b (kk R.2.1 (nb (G x) + j)) then [((kk R.2.1 (nb (G x) + j)).1, (kk R.2.1 (nb (G x) + j)).2.1)] else []) := rfl
            rw [e1, e2, h1]
            unfold kc
            by_cases q : kw a b (kk R.2.1 (nb (G x) + j))
            · rw [if_pos q, if_pos q, List.length_append]
              show _ = nI (_ + 1) + B
              rw [← nI_1, Int32.add_assoc, Int32.add_comm B 1, ← Int32.add_assoc]
            · rw [if_neg q, if_neg q, List.append_nil, if_neg, Int32.add_zero]
              rintro ⟨w, -⟩
              rw [g5 j (by omega)] at w
              exact w rfl
        exact key _ (Nat.le_refl _)
      · have eo : ow (G x) = 0 := by unfold ow; rw [if_neg k0, if_neg k1]
        rw [eo]
        exact ih1
theorem cn_loop (hw : fw f T G R) {I : Nat → Int32} {Ar : Nat → Nat → Int32} {Aj : Nat → Nat → Int64} (h16 : I 16 = nI R.2.2.1.length) (hn : ∀ y, y < R.2.2.1.length → Ar 12 y = nI (nk (G y)) ∧ Ar 18 y = (nl (G y)).2.2) (hs : ∀ y, y < R.2.2.1.length → spn Aj G R.2.1 y) (a b base : Int32) : ∀ (r x fuel : Nat), x + r = R.2.2.1.length → r < fuel → b_X8_count_25 fuel m0 a b (base + pv_it (fun y s => s + co a b G R.2.1 y) x 0) (nI x) (N, md_mk m0 I Ar Aj) = some (base + pv_it (fun y s => s + co a b G R.2.1 y) R.2.2.1.length 0, (N, md_mk m0 I Ar Aj)) := by
  obtain ⟨w1, w2, w3, w4, w5, w6, w7, w8, w9, w10, w11⟩ := id hw
  intro r
  induction r with
  | zero =>
    intro x fuel hx hf
    obtain ⟨g, rfl⟩ : ∃ g, fuel = g + 1 := ⟨fuel - 1, by omega⟩
    obtain rfl : x = R.2.2.1.length := by omega
    show B_X8_count_25 _ _ _ _ _ _ _ = _
    unfold B_X8_count_25
    rw [md_g16, Option.bind_some, h16, if_pos (nI_le (Nat.le_refl _) (by omega))]
  | succ r ih =>
    intro x fuel hx hf
    obtain ⟨g, rfl⟩ : ∃ g, fuel = g + 1 := ⟨fuel - 1, by omega⟩
    have ih1 := ih (x + 1) g (by omega) (by omega)
    have eB : pv_it (fun y s => s + co a b G R.2.1 y) (x + 1) 0 = pv_it (fun y s => s + co a b G R.2.1 y) x 0 + co a b G R.2.1 x := rfl
    rw [eB, ← Int32.add_assoc] at ih1
    generalize base + pv_it (fun y s => s + co a b G R.2.1 y) x 0 = acc at ih1 ⊢
    obtain ⟨n1, n2⟩ := hn x (by omega)
    obtain ⟨s1, s2⟩ := hs x (by omega)
    have hk := (w1 x (by omega)).1.1
    show B_X8_count_25 _ _ _ _ _ _ _ = _
    unfold B_X8_count_25 b_X8_count_85 b_X8_count_87
    rw [md_g16, Option.bind_some, h16, if_neg (nI_ge (by omega) (by omega)), md_r17, Option.bind_some, Option.bind_some, md_l12, sw_ix_nI (by omega) (by omega), Option.bind_some, Option.bind_some, n1, nI_1]
    by_cases k0 : nk (G x) = 0
    · rw [if_pos (by rw [k0]; rfl), md_r24, Option.bind_some, Option.bind_some, md_l19, sw_ix_nI (by omega) (by omega), Option.bind_some, Option.bind_some, s1]
      simp only [lg_cmp_lt, lg_cmp_gt]
      by_cases c1 : kF R.2.1 (nb (G x)) < a.toInt64
      · have e : co a b G R.2.1 x = 0 := by unfold co; rw [if_neg (fun w => Int64.not_le.mpr c1 w.2.1)]
        rw [e, Int32.add_zero] at ih1
        rw [if_pos c1]; exact ih1
      · rw [if_neg c1, md_r25, Option.bind_some, Option.bind_some, md_l20, sw_ix_nI (by omega) (by omega), Option.bind_some, Option.bind_some, s2]
        by_cases c2 : b.toInt64 + 1 < kE R.2.1 (ne (G x))
        · have e : co a b G R.2.1 x = 0 := by unfold co; rw [if_neg (fun w => Int64.not_le.mpr c2 w.2.2)]
          rw [e, Int32.add_zero] at ih1
          rw [if_pos c2]; exact ih1
        · have e : co a b G R.2.1 x = (nl (G x)).2.2 := by unfold co; rw [if_pos ⟨k0, Int64.not_lt.mp c1, Int64.not_lt.mp c2⟩]
          rw [e] at ih1
          rw [if_neg c2, md_r23, Option.bind_some, Option.bind_some, md_l18, sw_ix_nI (by omega) (by omega), Option.bind_some, Option.bind_some, n2]
          exact ih1
    · have e : co a b G R.2.1 x = 0 := by unfold co; rw [if_neg (fun w => k0 w.1)]
      rw [e, Int32.add_zero] at ih1
      rw [if_neg (show ¬ nI (nk (G x)) = 0 from fun e => k0 ((nI_eq (b := 0) (by omega) (by omega)).mp e))]
      exact ih1
/-- what check and count leave as it was -/
def rik (I : Nat → Int32) (Ar : Nat → Nat → Int32) (Aj : Nat → Nat → Int64) (I' : Nat → Int32) (Ar' : Nat → Nat → Int32) (Aj' : Nat → Nat → Int64) : Prop := (∀ t, t < 16 → I' t = I t) ∧ (∀ t, t < 12 → Ar' t = Ar t) ∧ ∀ t, t < 19 → Aj' t = Aj t
theorem md_check {F : Nat} (hF : F ≤ 5) (hT : T ≤ 240) {I : Nat → Int32} {Ar : Nat → Nat → Int32} {Aj : Nat → Nat → Int64} (h0 : I 0 = nI F) (h12 : I 12 = nI T) (h8 : Ar 8 = f) (w a b : Int32) :
    (∃ R I' Ar' Aj', ¬ b < a ∧ ps0 f T F = some R ∧ pc_ok T w a b 0 R ∧ f_X8_check m0 w a b (N, md_mk m0 I Ar Aj) = some (nI (kR a b R.2.1 R.2.1.length).length, (N, md_mk m0 I' Ar' Aj')) ∧ I' 29 = nI (kR a b R.2.1 R.2.1.length).length ∧ rh (Ar' 21) (Ar' 22) (kR a b R.2.1 R.2.1.length) ∧ rik I Ar Aj I' Ar' Aj') ∨
    (∃ I' Ar' Aj', f_X8_check m0 w a b (N, md_mk m0 I Ar Aj) = some (-1, (N, md_mk m0 I' Ar' Aj')) ∧ rik I Ar Aj I' Ar' Aj' ∧ I' 29 = I 29 ∧ Ar' 21 = Ar 21 ∧ Ar' 22 = Ar 22 ∧ (b < a ∨ ∀ R, ps0 f T F = some R → ¬ pc_ok T w a b 0 R)) := by
  unfold f_X8_check
  rw [md_ob, Option.bind_some]
  rcases md_right (N := N) (m0 := m0) (Aj := Aj) hF hT h0 h12 h8 w a b 0 with ⟨R, G, I1, A1, J1, q1, q2, q3, q4, q5, q6, q7, q8, q9, q10⟩ | ⟨I1, A1, J1, q1, q2, q3⟩
  · left
    obtain ⟨A2, p1, p2, p3, -⟩ := rr_out (N := N) (m0 := m0) (I := I1) (Aj := J1) hT q5 q8 a b 1 R.2.2.1.length 0 1000 (Ar := A1) (by omega) (by have := q5.2.2.2.2.2.2.2.2.2.1; omega) q9 (fun y hy => (q6 y hy).1) (fun _ => by rw [kx_0 q5]; exact fun i hi => absurd hi (Nat.not_lt_zero i))
    rw [kx_0 q5] at p1
    have p1' : f_X8_rows m0 a b 1 (N, md_mk m0 I1 A1 J1) = some (nI (kR a b R.2.1 R.2.1.length).length, (N, md_mk m0 I1 A2 J1)) := p1
    rw [q4, cw_b2, if_neg (by decide), md_ob, Option.bind_some, p1', cw_b2, md_p29, Option.bind_some, md_g29, Option.bind_some, pk_us]
    refine ⟨R, _, A2, J1, q1, q2, q3, rfl, pk_us, p2 (by decide), fun t ht => ?_, fun t ht => ?_, fun t ht => q10.2.2 t (by omega) (by omega)⟩
    · rw [pk_un (by omega)]; exact q10.1 t (by omega) (by omega) (by omega) (by omega)
    · rw [p3 t (by omega) (by omega)]; exact q10.2.1 t (by omega)
  · right
    rw [q1, cw_b2, if_pos rfl]
    exact ⟨I1, A1, J1, rfl, ⟨fun t ht => q2.1 t (by omega) (by omega) (by omega) (by omega), fun t ht => q2.2.1 t (by omega), fun t ht => q2.2.2 t (by omega) (by omega)⟩, q2.1 29 (by decide) (by decide) (by decide) (by decide), q2.2.1 21 (by omega), q2.2.1 22 (by omega), q3⟩
theorem md_count {F : Nat} (hF : F ≤ 5) (hT : T ≤ 240) {I : Nat → Int32} {Ar : Nat → Nat → Int32} {Aj : Nat → Nat → Int64} (h0 : I 0 = nI F) (h12 : I 12 = nI T) (h8 : Ar 8 = f) (w a b : Int32) :
    (∃ R I' Ar' Aj', ¬ b < a ∧ ps0 f T F = some R ∧ pc_ok T w a b 1 R ∧ f_X8_count m0 w a b (N, md_mk m0 I Ar Aj) = some (pv_it (fun j s => s + kc a b R.2.1 j) R.2.1.length 0, (N, md_mk m0 I' Ar' Aj')) ∧ I' 29 = I 29 ∧ Ar' 21 = Ar 21 ∧ Ar' 22 = Ar 22 ∧ rik I Ar Aj I' Ar' Aj') ∨
    (∃ I' Ar' Aj', f_X8_count m0 w a b (N, md_mk m0 I Ar Aj) = some (-1, (N, md_mk m0 I' Ar' Aj')) ∧ rik I Ar Aj I' Ar' Aj' ∧ I' 29 = I 29 ∧ Ar' 21 = Ar 21 ∧ Ar' 22 = Ar 22 ∧ (b < a ∨ ∀ R, ps0 f T F = some R → ¬ pc_ok T w a b 1 R)) := by
  unfold f_X8_count
  rw [md_ob, Option.bind_some]
  rcases md_right (N := N) (m0 := m0) (Aj := Aj) hF hT h0 h12 h8 w a b 1 with ⟨R, G, I1, A1, J1, q1, q2, q3, q4, q5, q6, q7, q8, q9, q10⟩ | ⟨I1, A1, J1, q1, q2, q3⟩
  · left
    obtain ⟨w1, w2, w3, w4, w5, w6, w7, w8, w9, w10, w11⟩ := id q5
    obtain ⟨A2, p1, -, p2, p5⟩ := rr_out (N := N) (m0 := m0) (I := I1) (Aj := J1) hT q5 q8 a b 0 R.2.2.1.length 0 1000 (Ar := A1) (by omega) (by omega) q9 (fun y hy => (q6 y hy).1) (fun q => absurd rfl q)
    obtain ⟨p3, p4⟩ := p5 rfl
    rw [kx_0 q5] at p1
    have p1' : f_X8_rows m0 a b 0 (N, md_mk m0 I1 A1 J1) = some (nI (kR a b R.2.1 R.2.1.length).length, (N, md_mk m0 I1 A2 J1)) := p1
    have hco0 : co a b G R.2.1 0 = 0 := by unfold co; rw [if_neg (fun w => w7 w.1)]
    have hc := cn_loop (N := N) (m0 := m0) (I := I1) (Ar := A2) (Aj := J1) q5 q8 (fun y hy => ⟨by rw [p2 12 (by decide) (by decide)]; exact (q6 y hy).1.1, by rw [p2 18 (by decide) (by decide)]; exact (q6 y hy).2.2.2⟩) q7 a b (nI (kR a b R.2.1 R.2.1.length).length) (R.2.2.1.length - 1) 1 1000 (by omega) (by omega)
    have ht := fw_total q5 a b R.2.2.1.length (Nat.le_refl _)
    rw [kx_m] at ht
    rw [← ht] at hc
    have e1 : nI (kR a b R.2.1 R.2.1.length).length + pv_it (fun y s => s + co a b G R.2.1 y) 1 0 = nI (kR a b R.2.1 R.2.1.length).length := by
      show _ + (0 + co a b G R.2.1 0) = _
      rw [hco0, Int32.add_zero, Int32.add_zero]
    rw [e1] at hc
    have hc' : b_X8_count_25 1000 m0 a b (nI (kR a b R.2.1 R.2.1.length).length) 1 (N, md_mk m0 I1 A2 J1) = some (pv_it (fun j s => s + kc a b R.2.1 j) R.2.1.length 0, (N, md_mk m0 I1 A2 J1)) := hc
    rw [q4, cw_b2, if_neg (by decide), md_ob, Option.bind_some, p1', cw_b2, hc']
    exact ⟨R, I1, A2, J1, q1, q2, q3, rfl, q10.1 29 (by decide) (by decide) (by decide) (by decide), by rw [p3]; exact q10.2.1 21 (by omega), by rw [p4]; exact q10.2.1 22 (by omega), fun t ht => q10.1 t (by omega) (by omega) (by omega) (by omega), fun t ht => by rw [p2 t (by omega) (by omega)]; exact q10.2.1 t (by omega), fun t ht => q10.2.2 t (by omega) (by omega)⟩
  · right
    rw [q1, cw_b2, if_pos rfl]
    exact ⟨I1, A1, J1, rfl, ⟨fun t ht => q2.1 t (by omega) (by omega) (by omega) (by omega), fun t ht => q2.2.1 t (by omega), fun t ht => q2.2.2 t (by omega) (by omega)⟩, q2.1 29 (by decide) (by decide) (by decide) (by decide), q2.2.1 21 (by omega), q2.2.1 22 (by omega), q3⟩
end RCC
