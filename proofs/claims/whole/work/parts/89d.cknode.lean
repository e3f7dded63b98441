/-! THE CLASS READS A NODE -/
theorem ps_c_len {f : Nat → Int32} {T F d n k p0 up : Nat} {x0 : Int32 × Int32 × Int32} (hF : F ≤ 5) (hp : p0 ≤ T) : ∀ i s, ps_c f (fun n' k' p' => ps f T F d false up n' k' p') n k (p0, [], [], [], x0) i = some s → p0 + 2 * s.2.1.length + 2 * s.2.2.2.1.length ≤ s.1 ∧ p0 + 2 * s.2.2.1.length ≤ s.1 ∧ s.1 ≤ T ∧ i ≤ s.2.1.length := by
  intro i
  induction i with
  | zero => intro s hs; cases hs; simp; omega
  | succ i ihi =>
    intro s hs
    obtain ⟨s1, r1, e1, e2, rfl⟩ := ps_c_inv hs
    obtain ⟨a1, a2, a3, a4⟩ := ihi s1 e1
    obtain ⟨b1, b2, b3, b4, b5⟩ := ps_len hF d e2
    have b6 := b5 rfl
    have hl : (if f s1.1 = 0 then [] else [(k + s1.2.1.length, k + s1.2.1.length + r1.2.1.length)] : List (Nat × Nat)).length ≤ 1 := by split <;> simp
    simp only [ps_st, List.length_append]
    omega
section CKN
variable {x po F : Nat} {f : Nat → Int32} {T : Nat}
def ck_oc (x po F : Nat) (f : Nat → Int32) (T : Nat) (σ : sw_S) (K : List ps_K) (C : List (Nat × Nat)) (p : Nat) (run : Option (Int32 × sw_S)) (o : Option ps_R) : Prop := match o with
  | some R => ∃ σ', run = some (1, σ') ∧ ck x po F f T σ' R.1 (K ++ R.2.1) ((C ++ R.2.2.2.1) ++ (if f p = 0 then [] else [(K.length, K.length + R.2.1.length)])) R.2.2.2.2 ∧ ck_fr x σ σ'
  | none => ∃ σ', run = some (0, σ') ∧ ck_any x po F f T σ' ∧ ck_fr x σ σ'
theorem ck_child (hx : po + 1 < x) (hT : T ≤ 240) (hF : F ≤ 5) {d D : Nat} (hd : d ≤ 5)
    (hn : ∀ {up n p : Nat} {K : List ps_K} {C : List (Nat × Nat)} {b : Int32 × Int32 × Int32} {σ : sw_S}, ck x po F f T σ p K C b → 2 * K.length + 2 * C.length ≤ p → p ≤ T → (p < T → f p ≠ 0) → ck_ot x po F f T σ K C (f_X0_readNode D x (nI (7 - d)) σ) (ps f T F d false up n K.length p))
    {up n p : Nat} {K : List ps_K} {C : List (Nat × Nat)} {b : Int32 × Int32 × Int32} {σ : sw_S} (h : ck x po F f T σ p K C b) (hKC : 2 * K.length + 2 * C.length ≤ p) (hp : p ≤ T) :
    ck_oc x po F f T σ K C p (f_X0_readChild (f_X0_readNode D) x (nI (7 - d)) σ) (ps f T F d false up n K.length p) := by
  obtain ⟨L0, q0⟩ := h.ob
  have hm := h.hm hp hT (q := 1) (by omega)
  have h29 : (p < T → f p ≠ 0) → ck_oc x po F f T σ K C p (b_X0_readChild_29 (f_X0_readNode D) x (nI (7 - d)) σ) (ps f T F d false up n K.length p) := by
    intro hne
    have hr := hn (up := up) (n := n) h hKC hp hne
    unfold b_X0_readChild_29
    rw [h.gs.2.2.1, Option.bind_some, q0, Option.bind_some]
    cases ho : ps f T F d false up n K.length p with
    | none =>
      rw [ho] at hr
      obtain ⟨σ1, e1, a1, t1⟩ := hr
      exact ⟨σ1, by rw [e1, cw_b2, if_pos rfl], a1, t1⟩
    | some R =>
      rw [ho] at hr
      obtain ⟨σ1, e1, c1, t1⟩ := hr
      obtain ⟨l1, l2, l3, l4, l5⟩ := ps_len hF d ho
      obtain ⟨σ2, e2, c2, t2⟩ := c1.nc hx (by rw [List.length_append]; omega) K.length
      obtain ⟨L1, q1⟩ := c1.ob
      refine ⟨σ2, by rw [e1, cw_b2, if_neg (by decide), q1, Option.bind_some, e2, Option.bind_some], ?_, t1.tr t2⟩
      rw [if_neg (hne (by omega))]
      rw [List.length_append] at c2
      exact c2
  unfold f_X0_readChild
  rw [q0, Option.bind_some]
  rw [show (1 : Int32) = nI 1 from rfl, hm, Option.bind_some]
  by_cases c : T < p + 1
  · rw [if_pos c, if_pos rfl]
    exact h29 (fun q => by omega)
  · rw [if_neg c, if_neg (by decide), h.gs.2.2.2.2.2.2.1, Option.bind_some, Option.bind_some, h.gs.2.2.2.2.2.2.2.2.1.r0, Option.bind_some, h.gs.2.1, Option.bind_some, Option.bind_some, h.gs.2.2.2.2.2.2.2.2.1.l (by omega), Option.bind_some]
    by_cases c0 : f p = 0
    · rw [if_pos c0, Option.bind_some]
      cases d with
      | zero =>
        refine ⟨σ, ?_, h.any, ck_fr.rf⟩
        unfold f_X0_readLeftOut
        rw [if_pos (by decide)]; rfl
      | succ d =>
        obtain ⟨lf1, lf2⟩ := ck_left hx hT (dp := 7 - (d + 1)) (by omega) (by omega) hp h
        by_cases c4 : T < p + 4
        · have ho : ps f T F (d + 1) false up n K.length p = none := by
            unfold ps
            by_cases c2 : T < p + 2
            · rw [if_pos c2]
            · rw [if_neg c2, if_pos c0, if_pos (Or.inr (Or.inl c4))]
          rw [ho, lf1 c4, cw_b2]
          exact ⟨σ, rfl, h.any, ck_fr.rf⟩
        · obtain ⟨σ1, e1, c1, t1⟩ := lf2 c4
          by_cases c3 : f (p + 3) < 1
          · have ho : ps f T F (d + 1) false up n K.length p = none := by
              unfold ps
              rw [if_neg (by omega), if_pos c0, if_pos (Or.inr (Or.inr c3))]
            rw [if_pos c3] at e1
            rw [ho, e1, cw_b2]
            exact ⟨σ1, rfl, c1.any, t1⟩
          · have ho : ps f T F (d + 1) false up n K.length p = some (p + 4, [(f (p + 1), f (p + 3), 1)], [((0, up, p, 0), (K.length, K.length + 1), (f (p + 1), f (p + 2), f (p + 3)))], [], (f (p + 1), f (p + 2), f (p + 3))) := by
              unfold ps
              rw [if_neg (by omega), if_pos c0, if_neg]
              rintro (q | q | q)
              · cases q
              · exact c4 q
              · exact c3 q
            rw [if_neg c3] at e1
            rw [ho, e1, cw_b2]
            refine ⟨σ1, rfl, ?_, t1⟩
            rw [if_pos c0]
            simpa using c1
    · rw [if_neg c0]
      exact h29 (fun _ => c0)
theorem ck_children (hx : po + 1 < x) (hT : T ≤ 240) (hF : F ≤ 5) {d D : Nat} (hd : d ≤ 5)
    (hn : ∀ {up n p : Nat} {K : List ps_K} {C : List (Nat × Nat)} {b : Int32 × Int32 × Int32} {σ : sw_S}, ck x po F f T σ p K C b → 2 * K.length + 2 * C.length ≤ p → p ≤ T → (p < T → f p ≠ 0) → ck_ot x po F f T σ K C (f_X0_readNode D x (nI (7 - d)) σ) (ps f T F d false up n K.length p))
    {up n p0 z : Nat} {K : List ps_K} {C : List (Nat × Nat)} {h0 : Int32} (hz : z ≤ 5) (hp0 : p0 ≤ T) (hKC : 2 * K.length + 2 * C.length ≤ p0) : ∀ (r i fuel : Nat) {s : ps_S} {b : Int32 × Int32 × Int32} {σ : sw_S}, i + r = z → r < fuel → ps_c f (fun n' k' p' => ps f T F d false up n' k' p') n K.length (p0, [], [], [], (0, h0, 0)) i = some s → ck x po F f T σ s.1 (K ++ s.2.1) (C ++ s.2.2.2.1) b →
    match ps_c f (fun n' k' p' => ps f T F d false up n' k' p') n K.length (p0, [], [], [], (0, h0, 0)) z with
    | some s' => ∃ σ', b_X0_readChildren_19 (f_X0_readNode D) fuel x (nI z) (nI (6 - d)) s.2.2.2.2.1 s.2.2.2.2.2.2 s.2.2.2.2.2.1 (nI i) σ = some (1, σ') ∧ ck x po F f T σ' s'.1 (K ++ s'.2.1) (C ++ s'.2.2.2.1) s'.2.2.2.2 ∧ ck_fr x σ σ'
    | none => ∃ σ', b_X0_readChildren_19 (f_X0_readNode D) fuel x (nI z) (nI (6 - d)) s.2.2.2.2.1 s.2.2.2.2.2.2 s.2.2.2.2.2.1 (nI i) σ = some (0, σ') ∧ ck_any x po F f T σ' ∧ ck_fr x σ σ' := by
  intro r
  induction r with
  | zero =>
    intro i fuel s b σ hi hf hs h
    obtain ⟨fu, rfl⟩ : ∃ fu, fuel = fu + 1 := ⟨fuel - 1, by omega⟩
    obtain rfl : i = z := by omega
    rw [hs]
    obtain ⟨σ1, σ2, σ3, e1, e2, e3, c3, t3⟩ := h.lb hx s.2.2.2.2.1 s.2.2.2.2.2.2 s.2.2.2.2.2.1
    refine ⟨σ3, ?_, c3, t3⟩
    show B_X0_readChildren_19 _ _ _ _ _ _ _ _ _ _ = _
    unfold B_X0_readChildren_19
    rw [if_pos (nI_le (Nat.le_refl _) (by omega)), e1, Option.bind_some, e2, Option.bind_some, e3, Option.bind_some]
  | succ r ih =>
    intro i fuel s b σ hi hf hs h
    obtain ⟨fu, rfl⟩ : ∃ fu, fuel = fu + 1 := ⟨fuel - 1, by omega⟩
    obtain ⟨l1, l2, l3, l4⟩ := ps_c_len hF hp0 i s hs
    have hch := ck_child hx hT hF hd hn (up := up) (n := n + 1 + s.2.2.1.length) h (by simp only [List.length_append]; omega) l3
    rw [List.length_append] at hch
    obtain ⟨L0, q0⟩ := h.ob
    have hdp : nI (6 - d) + 1 = nI (7 - d) := by rw [nI_1, show 6 - d + 1 = 7 - d by omega]
    cases ho : ps f T F d false up (n + 1 + s.2.2.1.length) (K.length + s.2.1.length) s.1 with
    | none =>
      rw [ho] at hch
      obtain ⟨σ1, e1, a1, t1⟩ := hch
      have hno : ps_c f (fun n' k' p' => ps f T F d false up n' k' p') n K.length (p0, [], [], [], (0, h0, 0)) (i + 1) = none := by
        show (ps_c f _ n K.length _ i).bind _ = none
        rw [hs, Option.bind_some]
        simp only [ho]; rfl
      have hnz := ps_c_none hno r
      rw [show i + 1 + r = z by omega] at hnz
      rw [hnz]
      refine ⟨σ1, ?_, a1, t1⟩
      show B_X0_readChildren_19 _ _ _ _ _ _ _ _ _ _ = _
      unfold B_X0_readChildren_19
      rw [if_neg (nI_ge (by omega) (by omega)), q0, Option.bind_some, hdp, e1, cw_b2, if_pos rfl]
    | some R =>
      rw [ho] at hch
      obtain ⟨σ1, e1, c1, t1⟩ := hch
      have hs1 : ps_c f (fun n' k' p' => ps f T F d false up n' k' p') n K.length (p0, [], [], [], (0, h0, 0)) (i + 1) = some (ps_st f K.length i s R) := by
        show (ps_c f _ n K.length _ i).bind _ = _
        rw [hs, Option.bind_some]
        simp only [ho]; rfl
      have c1' : ck x po F f T σ1 (ps_st f K.length i s R).1 (K ++ (ps_st f K.length i s R).2.1) (C ++ (ps_st f K.length i s R).2.2.2.1) R.2.2.2.2 := by
        simp only [ps_st]
        rw [List.append_assoc] at c1
        rw [List.append_assoc C, List.append_assoc C, List.length_append] at c1
        exact c1
      have hrec := ih (i + 1) fu (by omega) (by omega) hs1 c1'
      have hrun : b_X0_readChildren_19 (f_X0_readNode D) (fu + 1) x (nI z) (nI (6 - d)) s.2.2.2.2.1 s.2.2.2.2.2.2 s.2.2.2.2.2.1 (nI i) σ = b_X0_readChildren_19 (f_X0_readNode D) fu x (nI z) (nI (6 - d)) (ps_st f K.length i s R).2.2.2.2.1 (ps_st f K.length i s R).2.2.2.2.2.2 (ps_st f K.length i s R).2.2.2.2.2.1 (nI (i + 1)) σ1 := by
        have h47 : ∀ v3, b_X0_readChildren_47 (f_X0_readNode D) (b_X0_readChildren_19 (f_X0_readNode D) fu) x (nI z) (nI (6 - d)) v3 s.2.2.2.2.2.2 s.2.2.2.2.2.1 (nI i) σ1 = b_X0_readChildren_19 (f_X0_readNode D) fu x (nI z) (nI (6 - d)) v3 (s.2.2.2.2.2.2 + R.2.2.2.2.2.2) (pv_lm s.2.2.2.2.2.1 R.2.2.2.2) (nI (i + 1)) σ1 := by
          intro v3
          unfold b_X0_readChildren_47
          rw [c1.gs.2.2.2.2.2.1, Option.bind_some, c1.gs.2.2.2.1, Option.bind_some, pv_mx, Option.bind_some, c1.gs.2.2.2.2.1, Option.bind_some, pv_mx, Option.bind_some, Option.bind_some, pv_mx, Option.bind_some, nI_1]
          rfl
        show B_X0_readChildren_19 _ _ _ _ _ _ _ _ _ _ = _
        unfold B_X0_readChildren_19
        rw [if_neg (nI_ge (by omega) (by omega)), q0, Option.bind_some, hdp, e1, cw_b2, if_neg (by decide)]
        by_cases hi0 : i = 0
        · rw [if_pos (by rw [hi0]; rfl), c1.gs.2.2.2.1, Option.bind_some, h47]
          simp only [ps_st, if_pos hi0]
        · rw [if_neg (nI_ne0 (by omega) (by omega)), h47]
          simp only [ps_st, if_neg hi0]
      rw [hrun]
      cases hz' : ps_c f (fun n' k' p' => ps f T F d false up n' k' p') n K.length (p0, [], [], [], (0, h0, 0)) z with
      | none =>
        rw [hz'] at hrec
        obtain ⟨σ2, e2, a2, t2⟩ := hrec
        exact ⟨σ2, e2, a2, t1.tr t2⟩
      | some s' =>
        rw [hz'] at hrec
        obtain ⟨σ2, e2, a2, t2⟩ := hrec
        exact ⟨σ2, e2, a2, t1.tr t2⟩
theorem ck_node (hx : po + 1 < x) (hT : T ≤ 240) (hF : F ≤ 5) : ∀ (d D : Nat) {up n p : Nat} {K : List ps_K} {C : List (Nat × Nat)} {b : Int32 × Int32 × Int32} {σ : sw_S}, d < D → d ≤ 6 → ck x po F f T σ p K C b → 2 * K.length + 2 * C.length ≤ p → p ≤ T → (d < 6 → p < T → f p ≠ 0) → ck_ot x po F f T σ K C (f_X0_readNode D x (nI (7 - d)) σ) (ps f T F d (decide (d = 6)) up n K.length p) := by
  intro d
  induction d with
  | zero =>
    intro D up n p K C b σ hD hd h hKC hp h0
    obtain ⟨D', rfl⟩ : ∃ D', D = D' + 1 := ⟨D - 1, by omega⟩
    refine ⟨σ, ?_, h.any, ck_fr.rf⟩
    show fr_X0_readNode _ _ _ _ = _
    unfold fr_X0_readNode
    rw [if_pos (by decide)]; rfl
  | succ d ih =>
    intro D up n p K C b σ hD hd h hKC hp h0
    obtain ⟨D', rfl⟩ : ∃ D', D = D' + 1 := ⟨D - 1, by omega⟩
    obtain ⟨L0, q0⟩ := h.ob
    have hm := h.hm hp hT (q := 2) (by omega)
    have hdp : ¬ (6 : Int32) < nI (7 - (d + 1)) := nI_nlt (show 7 - (d + 1) ≤ 6 by omega) (by decide)
    have hrun0 : f_X0_readNode (D' + 1) x (nI (7 - (d + 1))) σ = fr_X0_readNode (f_X0_readNode D') x (nI (7 - (d + 1))) σ := rfl
    rw [hrun0]
    unfold fr_X0_readNode
    rw [if_neg hdp, q0, Option.bind_some]
    rw [show (2 : Int32) = nI 2 from rfl, hm, Option.bind_some]
    by_cases c2 : T < p + 2
    · have ho : ps f T F (d + 1) (decide (d + 1 = 6)) up n K.length p = none := by unfold ps; rw [if_pos c2]
      rw [ho, if_pos c2, if_pos rfl]
      exact ⟨σ, rfl, h.any, ck_fr.rf⟩
    · rw [if_neg c2, if_neg (by decide), Option.bind_some]
      obtain ⟨σ1, e1, c1, t1⟩ := h.nx hx (by omega) hT
      obtain ⟨σ2, e2, cc2, t2⟩ := c1.nx hx (by omega) hT
      have t12 := t1.tr t2
      obtain ⟨L1, q1⟩ := c1.ob
      obtain ⟨L2, q2⟩ := cc2.ob
      rw [e1, cw_b2, q1, Option.bind_some, e2, cw_b2]
      have hroot : (nI (7 - (d + 1)) = 1) = (d + 1 = 6) := by
        apply propext
        constructor
        · intro q
          have := (nI_eq (b := 1) (by omega) (by decide)).mp q
          omega
        · intro q
          rw [show 7 - (d + 1) = 1 by omega]; rfl
      have h36 : (if nI (7 - (d + 1)) = 1 then b_X0_readNode_36 (f_X0_readNode D') x (nI (7 - (d + 1))) (f p) (f (p + 1)) 1 σ2 else b_X0_readNode_36 (f_X0_readNode D') x (nI (7 - (d + 1))) (f p) (f (p + 1)) 0 σ2) = b_X0_readNode_36 (f_X0_readNode D') x (nI (7 - (d + 1))) (f p) (f (p + 1)) (if d + 1 = 6 then 1 else 0) σ2 := by
        by_cases q : d + 1 = 6
        · rw [if_pos q, if_pos (by rw [hroot]; exact q)]
        · rw [if_neg q, if_neg (by rw [hroot]; exact q)]
      rw [h36]
      unfold b_X0_readNode_36
      by_cases k1 : f p = 1
      · have hlo : (if (if d + 1 = 6 then (1 : Int32) else 0) = 0 then b_X0_readNode_54 (f_X0_readNode D') x (f (p + 1)) 1 (f (p + 1)) σ2 else b_X0_readNode_54 (f_X0_readNode D') x (f (p + 1)) 0 (f (p + 1)) σ2) = b_X0_readNode_54 (f_X0_readNode D') x (f (p + 1)) (nI (if decide (d + 1 = 6) = true then 0 else 1)) (f (p + 1)) σ2 := by
          by_cases q : d + 1 = 6
          · simp [q]; rfl
          · simp [q]; rfl
        rw [if_pos k1, hlo]
        have ho : ps f T F (d + 1) (decide (d + 1 = 6)) up n K.length p = (ps_z F (if decide (d + 1 = 6) = true then 0 else 1) (f (p + 1))).bind fun z => if T < p + 2 + 2 * z then none else some (p + 2 + 2 * z, ps_lf f (p + 2) z, [((1, up, p, z), (K.length, K.length + z), ps_ll f (p + 2) z)], [], ps_ll f (p + 2) z) := by
          conv => lhs; unfold ps
          rw [if_neg c2, if_neg (by rw [k1]; decide), if_pos k1]
        rw [ho]
        generalize hlo2 : (if decide (d + 1 = 6) = true then 0 else 1) = lo
        have hlo3 : lo ≤ 2 := by rw [← hlo2]; split <;> omega
        unfold b_X0_readNode_54 ps_z
        by_cases z1 : f (p + 1) < nI lo
        · rw [if_pos z1, if_pos z1]
          exact ⟨σ2, rfl, cc2.any, t12⟩
        · rw [if_neg z1, if_neg z1, cc2.gs.1, Option.bind_some]
          by_cases z2 : nI F < f (p + 1)
          · rw [if_pos z2, if_pos z2]
            exact ⟨σ2, rfl, cc2.any, t12⟩
          · have hzz : ps_z F lo (f (p + 1)) = some (f (p + 1)).toNatClampNeg := by unfold ps_z; rw [if_neg z1, if_neg z2]
            obtain ⟨ez, -, hzF⟩ := ps_z_some hF hlo3 hzz
            rw [if_neg z2, if_neg z2, Option.bind_some, q2, Option.bind_some]
            generalize (f (p + 1)).toNatClampNeg = z at ez hzF
            have hen := ck_entries hx hT (z := z) (p := p + 2) (by omega) (by omega) (by omega) cc2
            rw [ez]
            by_cases c4 : T < p + 2 + 2 * z
            · rw [if_pos c4] at hen ⊢
              rw [hen, cw_b2, if_pos rfl]
              exact ⟨σ2, rfl, cc2.any, t12⟩
            · rw [if_neg c4] at hen ⊢
              obtain ⟨σ3, e3, c3, t3⟩ := hen
              rw [e3, cw_b2, if_neg (by decide)]
              exact ⟨σ3, rfl, by simpa using c3, t12.tr t3⟩
      · rw [if_neg k1]
        by_cases k2 : f p = 2
        · have hlo : (if (if d + 1 = 6 then (1 : Int32) else 0) = 0 then b_X0_readNode_95 (f_X0_readNode D') x (nI (7 - (d + 1))) (f (p + 1)) 1 (f (p + 1)) σ2 else b_X0_readNode_95 (f_X0_readNode D') x (nI (7 - (d + 1))) (f (p + 1)) 2 (f (p + 1)) σ2) = b_X0_readNode_95 (f_X0_readNode D') x (nI (7 - (d + 1))) (f (p + 1)) (nI (if decide (d + 1 = 6) = true then 2 else 1)) (f (p + 1)) σ2 := by
            by_cases q : d + 1 = 6
            · simp [q]; rfl
            · simp [q]; rfl
          rw [if_pos k2, hlo]
          have ho : ps f T F (d + 1) (decide (d + 1 = 6)) up n K.length p = (ps_z F (if decide (d + 1 = 6) = true then 2 else 1) (f (p + 1))).bind fun z => (ps_c f (fun n' k' p' => ps f T F d false n n' k' p') n K.length (p + 2, [], [], [], (0, pv_mix (pv_mix 1 2) (nI z), 0)) z).bind fun s => some (s.1, s.2.1, ((2, up, p, z), (K.length, K.length + s.2.1.length), s.2.2.2.2) :: s.2.2.1, s.2.2.2.1, s.2.2.2.2) := by
            conv => lhs; unfold ps
            rw [if_neg c2, if_neg (by rw [k2]; decide), if_neg k1, if_pos k2]
          rw [ho]
          generalize hlo2 : (if decide (d + 1 = 6) = true then 2 else 1) = lo
          have hlo3 : lo ≤ 2 := by rw [← hlo2]; split <;> omega
          unfold b_X0_readNode_95 ps_z
          by_cases z1 : f (p + 1) < nI lo
          · rw [if_pos z1, if_pos z1]
            exact ⟨σ2, rfl, cc2.any, t12⟩
          · rw [if_neg z1, if_neg z1, cc2.gs.1, Option.bind_some]
            by_cases z2 : nI F < f (p + 1)
            · rw [if_pos z2, if_pos z2]
              exact ⟨σ2, rfl, cc2.any, t12⟩
            · have hzz : ps_z F lo (f (p + 1)) = some (f (p + 1)).toNatClampNeg := by unfold ps_z; rw [if_neg z1, if_neg z2]
              obtain ⟨ez, -, hzF⟩ := ps_z_some hF hlo3 hzz
              rw [if_neg z2, if_neg z2, Option.bind_some, q2, Option.bind_some]
              generalize (f (p + 1)).toNatClampNeg = z at ez hzF
              rw [ez]
              have hdec : decide (d = 6) = false := by simp; omega
              have hkids := ck_children hx hT hF (d := d) (D := D') (by omega) (fun {up n p K C b σ} a1 a2 a3 a4 => by
                have := ih D' (up := up) (n := n) (by omega) (by omega) a1 a2 a3 (fun _ => a4)
                rw [hdec] at this; exact this) (up := n) (n := n) (p0 := p + 2) (z := z) (h0 := pv_mix (pv_mix 1 2) (nI z)) (K := K) (C := C) (by omega) (by omega) (by omega) z 0 1000 (s := (p + 2, [], [], [], (0, pv_mix (pv_mix 1 2) (nI z), 0))) (b := b) (σ := σ2) (by omega) (by omega) rfl (by simpa using cc2)
              have hrc : f_X0_readChildren (f_X0_readNode D') x (nI z) (nI (7 - (d + 1))) σ2 = b_X0_readChildren_19 (f_X0_readNode D') 1000 x (nI z) (nI (6 - d)) 0 0 (pv_mix (pv_mix 1 2) (nI z)) (nI 0) σ2 := by
                unfold f_X0_readChildren
                rw [pv_mx, Option.bind_some, pv_mx, Option.bind_some, show 7 - (d + 1) = 6 - d by omega]; rfl
              rw [hrc]
              cases hz' : ps_c f (fun n' k' p' => ps f T F d false n n' k' p') n K.length (p + 2, [], [], [], (0, pv_mix (pv_mix 1 2) (nI z), 0)) z with
              | none =>
                rw [hz'] at hkids
                obtain ⟨σ3, e3, a3, t3⟩ := hkids
                rw [e3, cw_b2, if_pos rfl]
                exact ⟨σ3, rfl, a3, t12.tr t3⟩
              | some s' =>
                rw [hz'] at hkids
                obtain ⟨σ3, e3, a3, t3⟩ := hkids
                rw [e3, cw_b2, if_neg (by decide)]
                exact ⟨σ3, rfl, a3, t12.tr t3⟩
        · have ho : ps f T F (d + 1) (decide (d + 1 = 6)) up n K.length p = none := by
            unfold ps
            rw [if_neg c2]
            by_cases k0 : f p = 0
            · rw [if_pos k0, if_pos]
              left
              by_cases q : d + 1 = 6
              · simp [q]
              · exact absurd k0 (h0 (by omega) (by omega))
            · rw [if_neg k0, if_neg k1, if_neg k2]
          rw [ho, if_neg k2]
          exact ⟨σ2, rfl, cc2.any, t12⟩
end CKN
