/-! THE REFERENCE READS A PROOF -/
theorem hp_gd {α : Type} (L : List α) (n : Nat) (z : α) : hp (fun x a => (fun j => L.getD (j - n) z) x = a) n L := hp_of fun j h => by
  show L.getD (n + j - n) z = L[j]
  rw [Nat.add_sub_cancel_left]
  simp [h]
theorem ps_c_pre {f : Nat → Int32} {g : Nat → Nat → Nat → Option ps_R} {n k : Nat} {s0 : ps_S} {i : Nat} : ∀ (m : Nat) {s' : ps_S}, ps_c f g n k s0 (i + m) = some s' → ∃ s L, ps_c f g n k s0 i = some s ∧ s'.2.1 = s.2.1 ++ L := by
  intro m
  induction m with
  | zero => intro s' h; exact ⟨s', [], h, by simp⟩
  | succ m ih =>
    intro s' h
    obtain ⟨s1, r, e1, e2, rfl⟩ := ps_c_inv h
    obtain ⟨s, L, h1, h2⟩ := ih e1
    refine ⟨s, L ++ r.2.1, h1, ?_⟩
    show s1.2.1 ++ r.2.1 = _
    rw [h2, List.append_assoc]
def rfail (m0 N : Nat) (Aj : Nat → Nat → Int64) (I : Nat → Int32) (Ar : Nat → Nat → Int32) (run : Option (Int32 × sw_S)) : Prop := ∃ I' Ar', run = some (0, (N, md_mk m0 I' Ar' Aj)) ∧ rdf 0 I Ar I' Ar'
section RTR
variable {N m0 : Nat} {Aj : Nat → Nat → Int64} {f : Nat → Int32} {T F : Nat}
theorem rd_step0 {up : Nat} {g : Nat} {I I' : Nat → Int32} {Ar Ar' : Nat → Nat → Int32} (hup : up < 300) (h : f_X8_readNode m0 (nI up) (N, md_mk m0 I Ar Aj) = some (0, (N, md_mk m0 I' Ar' Aj))) : b_X8_read_30 (g + 1) m0 (nI up) (N, md_mk m0 I Ar Aj) = some (0, (N, md_mk m0 I' Ar' Aj)) := by
  show B_X8_read_30 _ _ _ _ = _
  unfold B_X8_read_30
  rw [if_neg (Int32.not_lt.mpr (nI_pos' (by omega))), md_ob, Option.bind_some, h, cw_b2, if_pos rfl]
theorem rd_step1 {up : Nat} {g : Nat} {I I' : Nat → Int32} {Ar Ar' : Nat → Nat → Int32} (hup : up < 300) (h : f_X8_readNode m0 (nI up) (N, md_mk m0 I Ar Aj) = some (1, (N, md_mk m0 I' Ar' Aj))) : b_X8_read_30 (g + 1) m0 (nI up) (N, md_mk m0 I Ar Aj) = (f_X8_waiting m0 (N, md_mk m0 I' Ar' Aj)).bind fun x => b_X8_read_30 g m0 x (N, md_mk m0 I' Ar' Aj) := by
  show B_X8_read_30 _ _ _ _ = _
  unfold B_X8_read_30
  rw [if_neg (Int32.not_lt.mpr (nI_pos' (by omega))), md_ob, Option.bind_some, h, cw_b2, if_neg (by decide), md_ob, Option.bind_some]
theorem rd_wait {n : Nat} {I : Nat → Int32} {Ar : Nat → Nat → Int32} (h16 : I 16 = nI (n + 1)) : f_X8_waiting m0 (N, md_mk m0 I Ar Aj) = b_X8_waiting_7 1000 m0 (nI n) (N, md_mk m0 I Ar Aj) := by
  unfold f_X8_waiting
  rw [md_g16, Option.bind_some, h16, nI_pred]
/-- what a run over one subtree does -/
def rdo (m0 N : Nat) (Aj : Nat → Nat → Int64) (f : Nat → Int32) (T F d up n k p fuel : Nat) (lk : Option Int32) (I : Nat → Int32) (Ar : Nat → Nat → Int32) : Prop :=
  (∃ R I' Ar' fuel', ps f T F d false up n k p = some R ∧ ri R.2.1 lk = true ∧ b_X8_read_30 fuel m0 (nI up) (N, md_mk m0 I Ar Aj) = ((f_X8_waiting m0 (N, md_mk m0 I' Ar' Aj)).bind fun x => b_X8_read_30 fuel' m0 x (N, md_mk m0 I' Ar' Aj)) ∧ rd f T F (n + R.2.2.1.length) R.1 (lst R.2.1 lk) I' Ar' ∧ rdf n I Ar I' Ar' ∧ hp (nd Ar') n R.2.2.1 ∧ T < fuel' + R.1 ∧ ∃ e, e ≤ d ∧ f_X8_waiting m0 (N, md_mk m0 I' Ar' Aj) = b_X8_waiting_7 (1000 - e) m0 (nI up) (N, md_mk m0 I' Ar' Aj)) ∨
  (rfail m0 N Aj I Ar (b_X8_read_30 fuel m0 (nI up) (N, md_mk m0 I Ar Aj)) ∧ ∀ R, ps f T F d false up n k p = some R → ri R.2.1 lk = false)
theorem rd_hv (hF : F ≤ 5) {d n k p0 i : Nat} {x0 : Int32 × Int32 × Int32} {s : ps_S} (hs : ps_c f (fun n' k' p' => ps f T F d false n n' k' p') n k (p0, [], [], [], x0) i = some s) {I : Nat → Int32} {Ar : Nat → Nat → Int32} (h16 : I 16 = nI (n + 1 + s.2.2.1.length)) (hm : n + 1 + s.2.2.1.length ≤ 300) (hnd : hp (nd Ar) (n + 1) s.2.2.1) : f_X8_have m0 (nI n) (N, md_mk m0 I Ar Aj) = some (nI i) := by
  obtain ⟨c, kc, hc⟩ : ∃ c kc : Nat → Nat, ∀ t s', ps_c f (fun n' k' p' => ps f T F d false n n' k' p') n k (p0, [], [], [], x0) t = some s' → c t = n + 1 + s'.2.2.1.length ∧ kc t = k + s'.2.1.length := by
    refine ⟨fun t => n + 1 + ((ps_c f (fun n' k' p' => ps f T F d false n n' k' p') n k (p0, [], [], [], x0) t).elim 0 fun s => s.2.2.1.length), fun t => k + ((ps_c f (fun n' k' p' => ps f T F d false n n' k' p') n k (p0, [], [], [], x0) t).elim 0 fun s => s.2.1.length), fun t s' e => ?_⟩
    simp only [e]
    exact ⟨rfl, rfl⟩
  obtain ⟨-, -, ⟨a4, -, -⟩, a7, -⟩ := ps_c_flat hF (fun h hG hK => ps_flat hF d h hG hK) hc i s hs (hp_gd s.2.2.1 (n + 1) ((0, 0, 0, 0), (0, 0), (0, 0, 0))) (hp_gd s.2.1 k (0, 0, 0))
  have hG := hp_gd s.2.2.1 (n + 1) ((0, 0, 0, 0), (0, 0), (0, 0, 0))
  generalize (fun j => s.2.2.1.getD (j - (n + 1)) ((0, 0, 0, 0), (0, 0), (0, 0, 0))) = G at a4 a7 hG
  rw [← a7]
  refine rd_have h16 hm fun j j1 j2 => ?_
  have := (a4 j j1 j2).2.1
  obtain ⟨l, rfl⟩ : ∃ l, j = n + 1 + l := ⟨j - (n + 1), by omega⟩
  have g1 := hp_get hG l (by omega)
  have g2 := hp_get hnd l (by omega)
  refine ⟨?_, by omega⟩
  rw [g1]
  exact g2.2.1
theorem rd_kids (hF : F ≤ 5) (hT : T ≤ 240) {d : Nat} (hd : d ≤ 5)
    (ih : ∀ {up n k p fuel : Nat} {lk : Option Int32} {I : Nat → Int32} {Ar : Nat → Nat → Int32}, rd f T F n p lk I Ar → up < n → dp (Ar 13) (5 - d) up → 2 * n ≤ p → p ≤ T → T < fuel + p → rdo m0 N Aj f T F d up n k p fuel lk I Ar)
    {n k p0 z : Nat} {x0 : Int32 × Int32 × Int32} {lk : Option Int32} (hz : z ≤ 5) :
    ∀ (r i fuel : Nat) {I : Nat → Int32} {Ar : Nat → Nat → Int32} {s : ps_S}, i + r = z → ps_c f (fun n' k' p' => ps f T F d false n n' k' p') n k (p0, [], [], [], x0) i = some s → ri s.2.1 lk = true → rd f T F (n + 1 + s.2.2.1.length) s.1 (lst s.2.1 lk) I Ar → hp (nd Ar) (n + 1) s.2.2.1 → Ar 12 n = 2 → Ar 14 n = nI z → dp (Ar 13) (5 - d) n → 2 * (n + 1 + s.2.2.1.length) ≤ s.1 → s.1 ≤ T → T < fuel + s.1 → (∃ e, e ≤ d ∧ f_X8_waiting m0 (N, md_mk m0 I Ar Aj) = b_X8_waiting_7 (1000 - e) m0 (nI n) (N, md_mk m0 I Ar Aj)) →
    (∃ s' I' Ar' fuel', ps_c f (fun n' k' p' => ps f T F d false n n' k' p') n k (p0, [], [], [], x0) z = some s' ∧ ri s'.2.1 lk = true ∧ ((f_X8_waiting m0 (N, md_mk m0 I Ar Aj)).bind fun x => b_X8_read_30 fuel m0 x (N, md_mk m0 I Ar Aj)) = ((f_X8_waiting m0 (N, md_mk m0 I' Ar' Aj)).bind fun x => b_X8_read_30 fuel' m0 x (N, md_mk m0 I' Ar' Aj)) ∧ rd f T F (n + 1 + s'.2.2.1.length) s'.1 (lst s'.2.1 lk) I' Ar' ∧ rdf (n + 1) I Ar I' Ar' ∧ hp (nd Ar') (n + 1) s'.2.2.1 ∧ T < fuel' + s'.1 ∧ 2 * (n + 1 + s'.2.2.1.length) ≤ s'.1 ∧ s'.1 ≤ T ∧ ∃ e, e ≤ d ∧ f_X8_waiting m0 (N, md_mk m0 I' Ar' Aj) = b_X8_waiting_7 (1000 - e) m0 (nI n) (N, md_mk m0 I' Ar' Aj)) ∨
    (rfail m0 N Aj I Ar ((f_X8_waiting m0 (N, md_mk m0 I Ar Aj)).bind fun x => b_X8_read_30 fuel m0 x (N, md_mk m0 I Ar Aj)) ∧ ∀ s', ps_c f (fun n' k' p' => ps f T F d false n n' k' p') n k (p0, [], [], [], x0) z = some s' → ri s'.2.1 lk = false) := by
  intro r
  induction r with
  | zero =>
    intro i fuel I Ar s hi hs hr h hnd h12 h14 hdp h2 h3 h4 hw
    obtain rfl : i = z := by omega
    left
    exact ⟨s, I, Ar, fuel, hs, hr, rfl, h, rdf.rf, hnd, h4, h2, h3, hw⟩
  | succ r ihr =>
    intro i fuel I Ar s hi hs hr h hnd h12 h14 hdp h2 h3 h4 hw
    obtain ⟨e, he, hw⟩ := hw
    have hv := rd_hv (N := N) (m0 := m0) (Aj := Aj) hF hs h.2.2.1 (by omega) hnd
    have hwn : f_X8_waiting m0 (N, md_mk m0 I Ar Aj) = some (nI n) := by
      rw [hw, show 1000 - e = (999 - e) + 1 by omega, rw_inner (hv := i) (z := z) (999 - e) (by omega) h12 hv h14 (by omega) (by omega), if_neg (by omega)]
    rw [hwn, Option.bind_some]
    rcases ih (up := n) (k := k + s.2.1.length) (fuel := fuel) h (by omega) hdp h2 h3 h4 with ⟨R, I', Ar', fuel', q1, q2, q3, q4, q5, q6, q7, q8⟩ | ⟨q1, q2⟩
    · have hs' : ps_c f (fun n' k' p' => ps f T F d false n n' k' p') n k (p0, [], [], [], x0) (i + 1) = some (ps_st f k i s R) := by
        show (ps_c f (fun n' k' p' => ps f T F d false n n' k' p') n k (p0, [], [], [], x0) i).bind _ = _
        rw [hs, Option.bind_some]
        show (ps f T F d false n (n + 1 + s.2.2.1.length) (k + s.2.1.length) s.1).bind _ = _
        rw [q1, Option.bind_some]
      obtain ⟨l1, l2, l3, l4, -⟩ := ps_len hF d q1
      have eN : (ps_st f k i s R).2.2.1 = s.2.2.1 ++ R.2.2.1 := rfl
      have eK : (ps_st f k i s R).2.1 = s.2.1 ++ R.2.1 := rfl
      have e1 : (ps_st f k i s R).1 = R.1 := rfl
      have hlen : n + 1 + (ps_st f k i s R).2.2.1.length = n + 1 + s.2.2.1.length + R.2.2.1.length := by rw [eN, List.length_append]; omega
      have hn : ∀ t, Ar' t n = Ar t n := fun t => q5.2.2 t n (by omega)
      have key := ihr (i + 1) fuel' (I := I') (Ar := Ar') (by omega) hs' (by rw [eK, ri_app, hr, q2]; rfl) (by rw [hlen, eK, lst_app, e1]; exact q4) (by
          rw [eN]
          exact (hp_app _).mpr ⟨hp_nd hnd q5 (by omega), q6⟩) (by rw [hn]; exact h12) (by rw [hn]; exact h14) (dp_cg _ _ (fun j hj => q5.2.2 13 j (by omega)) hdp) (by rw [hlen, e1]; omega) (by rw [e1]; exact l3) (by rw [e1]; exact q7) q8
      rcases key with ⟨s', I2, Ar2, fuel2, w1, w2, w3, w4, w5, w6⟩ | ⟨⟨I2, Ar2, w1, w2⟩, w3⟩
      · left
        exact ⟨s', I2, Ar2, fuel2, w1, w2, q3.trans w3, w4, (q5.le (by omega)).tr w5 (Nat.le_refl _), w6⟩
      · right
        exact ⟨⟨I2, Ar2, q3.trans w1, (q5.le (by omega)).tr w2 (Nat.le_refl _)⟩, w3⟩
    · right
      refine ⟨q1, fun s' hs' => ?_⟩
      rw [show z = i + 1 + r by omega] at hs'
      obtain ⟨s1, L, p1, p2⟩ := ps_c_pre r hs'
      obtain ⟨s2, R, e1, e2, rfl⟩ := ps_c_inv p1
      rw [hs] at e1
      cases e1
      have := q2 R e2
      rw [p2]
      show ri ((s.2.1 ++ R.2.1) ++ L) lk = false
      rw [ri_app, ri_app, hr, this]
      rfl
theorem rd_tree (hF : F ≤ 5) (hT : T ≤ 240) : ∀ (d : Nat), d ≤ 5 → ∀ {up n k p fuel : Nat} {lk : Option Int32} {I : Nat → Int32} {Ar : Nat → Nat → Int32}, rd f T F n p lk I Ar → up < n → dp (Ar 13) (5 - d) up → 2 * n ≤ p → p ≤ T → T < fuel + p → rdo m0 N Aj f T F d up n k p fuel lk I Ar := by
  intro d
  induction d with
  | zero =>
    intro hd5 up n k p fuel lk I Ar h hup hdp h2 hpT hfu
    obtain ⟨g, rfl⟩ : ∃ g, fuel = g + 1 := ⟨fuel - 1, by omega⟩
    right
    refine ⟨?_, fun R q => by cases q⟩
    have hdn : dp ((md_u (md_u Ar 12 n (f p)) 13 n (nI up)) 13) 6 n := by
      refine ⟨by omega, by omega, up, mu_e, hup, dp_cg _ _ (fun j hj => ?_) hdp⟩
      rw [mu_n (Or.inr (by omega)), mu_n (Or.inl (by decide))]
    have hrn : f_X8_readNode m0 (nI up) (N, md_mk m0 I Ar Aj) = b_X8_readNode_12 m0 (nI up) 0 (N, md_mk m0 I Ar Aj) := by
      unfold f_X8_readNode
      rw [md_g16, Option.bind_some, h.2.2.1, if_neg (show ¬ nI n = 0 from fun g => by have := (nI_eq (b := 0) (by omega) (by omega)).mp g; omega)]
    rw [rd_12 h (by omega) hT hpT hdn (by omega)] at hrn
    by_cases c1 : T < p + 1
    · rw [if_pos c1] at hrn
      exact ⟨_, _, rd_step0 (by omega) hrn, rdf.rf⟩
    · rw [if_neg c1, if_pos (by decide)] at hrn
      exact ⟨_, _, rd_step0 (by omega) hrn, (((rdf.rf.u (by omega) (Nat.zero_le _) _).u (by omega) (Nat.zero_le _) _).p (by omega) _).p (by omega) _⟩
  | succ d ih =>
    intro hd5 up n k p fuel lk I Ar h hup hdp h2 hpT hfu
    obtain ⟨g, rfl⟩ : ∃ g, fuel = g + 1 := ⟨fuel - 1, by omega⟩
    have hdn : ∀ v, dp ((md_u (md_u Ar 12 n v) 13 n (nI up)) 13) (5 - d) n := by
      intro v
      rw [show 5 - d = (5 - (d + 1)) + 1 by omega]
      refine ⟨by omega, by omega, up, mu_e, hup, dp_cg _ _ (fun j hj => ?_) hdp⟩
      rw [mu_n (Or.inr (by omega)), mu_n (Or.inl (by decide))]
    have hnz : decide (n = 0) = false := by simp; omega
    have key := rd_node (N := N) (m0 := m0) (Aj := Aj) (k := k) h hF (by omega) hT hpT (hdn _) (d := d) (by omega)
    rw [hnz] at key
    rcases key with ⟨I', Ar', q1, q2, q3⟩ | ⟨R, I', Ar', q1, q2, q3, q4, q5, q6, q7, q8, q9, q10⟩ | ⟨z, I', Ar', q1, q2, q3, q4, q5, q6, q7, q8, q9⟩
    · right
      exact ⟨⟨I', Ar', rd_step0 (by omega) q1, q2.le (Nat.zero_le _)⟩, q3⟩
    · left
      obtain ⟨l1, l2, l3, l4, -⟩ := ps_len hF (d + 1) q1
      refine ⟨R, I', Ar', g, q1, q4, rd_step1 (by omega) q2, by rw [q8]; exact q6, q3, q7, by omega, 1, by omega, ?_⟩
      rw [rd_wait q6.2.2.1, show 1000 = 999 + 1 from rfl, rw_other 999 (by omega) q9, rw_35 999 (by omega) (by omega) q10]
    · obtain ⟨ez, z1, z2⟩ := ps_z_some hF (by split <;> omega) q3
      have ho : ps f T F (d + 1) false up n k p = (ps_c f (fun n' k' p' => ps f T F d false n n' k' p') n k (p + 2, [], [], [], (0, pv_mix (pv_mix 1 2) (nI z), 0)) z).bind fun s => some (s.1, s.2.1, ((2, up, p, z), (k, k + s.2.1.length), s.2.2.2.2) :: s.2.2.1, s.2.2.2.1, s.2.2.2.2) := by
        conv => lhs; unfold ps
        rw [if_neg (by omega), if_neg (by rw [q1]; decide), if_neg (by rw [q1]; decide), if_pos q1, q3, Option.bind_some]
      have hdn' : dp (Ar' 13) (5 - d) n := by
        rw [show 5 - d = (5 - (d + 1)) + 1 by omega]
        exact ⟨by omega, by omega, up, q8, hup, dp_cg _ _ (fun j hj => q5.2.2 13 j (by omega)) hdp⟩
      have kids := rd_kids (N := N) (m0 := m0) (Aj := Aj) hF hT (d := d) (by omega) (fun h1 h2 h3 h4 h5 h6 => ih (by omega) h1 h2 h3 h4 h5 h6) (n := n) (k := k) (p0 := p + 2) (z := z) (x0 := (0, pv_mix (pv_mix 1 2) (nI z), 0)) (lk := lk) (by omega) z 0 g (I := I') (Ar := Ar') (s := (p + 2, [], [], [], (0, pv_mix (pv_mix 1 2) (nI z), 0))) (by omega) rfl rfl q6 trivial q7 q9 hdn' (by show 2 * (n + 1 + 0) ≤ p + 2; omega) q2 (by show T < g + (p + 2); omega) ⟨0, by omega, rd_wait q6.2.2.1⟩
      rcases kids with ⟨s', I2, Ar2, fuel2, w1, w2, w3, w4, w5, w6, w7, w8, w9, e, w10, w11⟩ | ⟨⟨I2, Ar2, w1, w2⟩, w3⟩
      · left
        have eN : n + (((2, up, p, z), (k, k + s'.2.1.length), s'.2.2.2.2) :: s'.2.2.1 : List ps_N).length = n + 1 + s'.2.2.1.length := by simp; omega
        have hn : ∀ t, Ar2 t n = Ar' t n := fun t => w5.2.2 t n (by omega)
        refine ⟨(s'.1, s'.2.1, ((2, up, p, z), (k, k + s'.2.1.length), s'.2.2.2.2) :: s'.2.2.1, s'.2.2.2.1, s'.2.2.2.2), I2, Ar2, fuel2, by rw [ho, w1, Option.bind_some], w2, (rd_step1 (by omega) q4).trans w3, by rw [eN]; exact w4, q5.tr w5 (by omega), ⟨⟨by rw [hn, q7]; rfl, by rw [hn]; exact q8, fun _ => (by rw [hn]; exact q9), fun q => (by cases q), fun q => (by cases q)⟩, w6⟩, w7, e + 1, by omega, ?_⟩
        have hv := rd_hv (N := N) (m0 := m0) (Aj := Aj) hF w1 w4.2.2.1 (by omega) w6
        rw [w11, show 1000 - e = (1000 - (e + 1)) + 1 by omega, rw_inner (hv := z) (z := z) (1000 - (e + 1)) (by omega) (by rw [hn]; exact q7) hv (by rw [hn]; exact q9) (by omega) (by omega), if_pos rfl, rw_35 _ (by omega) (by omega) (by rw [hn]; exact q8)]
      · right
        refine ⟨⟨I2, Ar2, (rd_step1 (by omega) q4).trans w1, (q5.le (Nat.zero_le _)).tr w2 (Nat.le_refl _)⟩, fun R g => ?_⟩
        rw [ho] at g
        obtain ⟨s', g1, g2⟩ := Option.bind_eq_some_iff.mp g
        cases g2
        exact w3 s' g1
/-- the end of reading: nobody waits -/
theorem rd_end {I : Nat → Int32} {Ar : Nat → Nat → Int32} {g p : Nat} (h26 : I 26 = nI p) (h12 : I 12 = nI T) (hp : p ≤ 1000) (hT : T ≤ 240) : b_X8_read_30 (g + 1) m0 (-1) (N, md_mk m0 I Ar Aj) = some (if p = T then 1 else 0, (N, md_mk m0 I Ar Aj)) := by
  show B_X8_read_30 _ _ _ _ = _
  unfold B_X8_read_30
  rw [if_pos (by decide), md_g26, Option.bind_some, md_g12, Option.bind_some, h26, h12]
  by_cases q : p = T
  · rw [if_pos (by rw [q]), if_pos q]; rfl
  · rw [if_neg (fun e => q ((nI_eq (by omega) (by omega)).mp e)), if_neg q]; rfl
theorem rd_read (hF : F ≤ 5) (hT : T ≤ 240) {I : Nat → Int32} {Ar : Nat → Nat → Int32} (h0 : I 0 = nI F) (h12 : I 12 = nI T) (h8 : Ar 8 = f) :
    (∃ R I' Ar', ps0 f T F = some R ∧ R.1 = T ∧ ri R.2.1 none = true ∧ f_X8_read m0 (N, md_mk m0 I Ar Aj) = some (1, (N, md_mk m0 I' Ar' Aj)) ∧ rd f T F R.2.2.1.length T (lst R.2.1 none) I' Ar' ∧ hp (nd Ar') 0 R.2.2.1 ∧ rdf 0 I Ar I' Ar') ∨
    (rfail m0 N Aj I Ar (f_X8_read m0 (N, md_mk m0 I Ar Aj)) ∧ ∀ R, ps0 f T F = some R → ¬ (R.1 = T ∧ ri R.2.1 none = true)) := by
  have hI : rdf 0 I Ar (upd (upd (upd I 26 0) 16 0) 27 0) Ar := ((rdf.rf.p (by omega) _).p (by omega) _).p (by omega) _
  have hrd : rd f T F 0 0 none (upd (upd (upd I 26 0) 16 0) 27 0) Ar := ⟨by rw [pk_un (by decide), pk_un (by decide), pk_un (by decide)]; exact h0, by rw [pk_un (by decide), pk_un (by decide), pk_un (by decide)]; exact h12, by rw [pk_un (by decide), pk_us]; rfl, by rw [pk_un (by decide), pk_un (by decide), pk_us]; rfl, pk_us, h8⟩
  have hrun : f_X8_read m0 (N, md_mk m0 I Ar Aj) = sw_b2 (f_X8_readNode m0 (nI 0) (N, md_mk m0 (upd (upd (upd I 26 0) 16 0) 27 0) Ar Aj)) fun x s => if x = 0 then some (0, s) else (sw_ob 8 m0 s).bind fun _ => (f_X8_waiting m0 s).bind fun y => b_X8_read_30 1000 m0 y s := by
    unfold f_X8_read
    rw [md_p26, Option.bind_some, md_p16, Option.bind_some, show sw_z 0 = some 0 from rfl, Option.bind_some, md_p27, Option.bind_some, md_ob, Option.bind_some]
    rfl
  generalize upd (upd (upd I 26 0) 16 0) 27 0 = I0 at hI hrd hrun
  rw [hrun]
  have key := rd_node (N := N) (m0 := m0) (Aj := Aj) (k := 0) (up := 0) (e := 0) (d := 5) hrd hF (by omega) hT (Nat.zero_le _) rfl (by omega)
  have hd0 : decide ((0 : Nat) = 0) = true := rfl
  rw [hd0] at key
  rcases key with ⟨I', Ar', q1, q2, q3⟩ | ⟨R, I', Ar', q1, q2, q3, q4, q5, q6, q7, q8, q9, q10⟩ | ⟨z, I', Ar', q1, q2, q3, q4, q5, q6, q7, q8, q9⟩
  · right
    refine ⟨⟨I', Ar', by rw [q1, cw_b2, if_pos rfl], hI.tr q2 (Nat.le_refl _)⟩, fun R g w => ?_⟩
    rw [q3 R g] at w
    cases w.2
  · obtain ⟨l1, l2, l3, l4, -⟩ := ps_len hF 6 q1
    have hw : f_X8_waiting m0 (N, md_mk m0 I' Ar' Aj) = some (-1) := by
      rw [rd_wait q6.2.2.1, show 1000 = 998 + 1 + 1 from rfl, rw_other 999 (by omega) q9, rw_350, rw_neg]
    have hrun2 : (sw_b2 (f_X8_readNode m0 (nI 0) (N, md_mk m0 I0 Ar Aj)) fun x s => if x = 0 then some (0, s) else (sw_ob 8 m0 s).bind fun _ => (f_X8_waiting m0 s).bind fun y => b_X8_read_30 1000 m0 y s) = some (if R.1 = T then 1 else 0, (N, md_mk m0 I' Ar' Aj)) := by
      rw [q2, cw_b2, if_neg (by decide), md_ob, Option.bind_some, hw, Option.bind_some, show 1000 = 999 + 1 from rfl, rd_end q6.2.2.2.1 q6.2.1 (by omega) hT]
    rw [hrun2]
    by_cases c : R.1 = T
    · left
      rw [if_pos c]
      refine ⟨R, I', Ar', q1, c, q4, rfl, ?_, q7, hI.tr q3 (Nat.le_refl _)⟩
      rw [c, Nat.zero_add] at q6
      rw [q8]; exact q6
    · right
      rw [if_neg c]
      refine ⟨⟨I', Ar', rfl, hI.tr q3 (Nat.le_refl _)⟩, fun R' g w => ?_⟩
      have : ps0 f T F = some R := q1
      rw [this] at g; cases g; exact c w.1
  · obtain ⟨ez, z1, z2⟩ := ps_z_some hF (by split <;> omega) q3
    have ho : ps0 f T F = (ps_c f (fun n' k' p' => ps f T F 5 false 0 n' k' p') 0 0 (0 + 2, [], [], [], (0, pv_mix (pv_mix 1 2) (nI z), 0)) z).bind fun s => some (s.1, s.2.1, ((2, 0, 0, z), (0, 0 + s.2.1.length), s.2.2.2.2) :: s.2.2.1, s.2.2.2.1, s.2.2.2.2) := by
      unfold ps0
      conv => lhs; unfold ps
      rw [if_neg (by omega), if_neg (by rw [q1]; decide), if_neg (by rw [q1]; decide), if_pos q1, q3, Option.bind_some]
    have kids := rd_kids (N := N) (m0 := m0) (Aj := Aj) hF hT (d := 5) (by omega) (fun h1 h2 h3 h4 h5 h6 => rd_tree hF hT 5 (by omega) h1 h2 h3 h4 h5 h6) (n := 0) (k := 0) (p0 := 0 + 2) (z := z) (x0 := (0, pv_mix (pv_mix 1 2) (nI z), 0)) (lk := none) (by omega) z 0 1000 (I := I') (Ar := Ar') (s := (0 + 2, [], [], [], (0, pv_mix (pv_mix 1 2) (nI z), 0))) (by omega) rfl rfl q6 trivial q7 q9 rfl (by show 2 * (0 + 1 + 0) ≤ 0 + 2; omega) q2 (by show T < 1000 + (0 + 2); omega) ⟨0, by omega, rd_wait q6.2.2.1⟩
    rw [q4, cw_b2, if_neg (by decide), md_ob, Option.bind_some]
    rcases kids with ⟨s', I2, Ar2, fuel2, w1, w2, w3, w4, w5, w6, w7, w8, w9, e, w10, w11⟩ | ⟨⟨I2, Ar2, w1, w2⟩, w3⟩
    · have hn : ∀ t, Ar2 t 0 = Ar' t 0 := fun t => w5.2.2 t 0 (by omega)
      have hv := rd_hv (N := N) (m0 := m0) (Aj := Aj) hF w1 w4.2.2.1 (by omega) w6
      have hw : f_X8_waiting m0 (N, md_mk m0 I2 Ar2 Aj) = some (-1) := by
        rw [w11, show 1000 - e = (998 - e) + 1 + 1 by omega, rw_inner (hv := z) (z := z) _ (by omega) (by rw [hn]; exact q7) hv (by rw [hn]; exact q9) (by omega) (by omega), if_pos rfl, rw_350, rw_neg]
      obtain ⟨g2, rfl⟩ : ∃ g, fuel2 = g + 1 := ⟨fuel2 - 1, by omega⟩
      rw [w3, hw, Option.bind_some, rd_end w4.2.2.2.1 w4.2.1 (by omega) hT]
      rw [w1, Option.bind_some] at ho
      by_cases c : s'.1 = T
      · left
        rw [if_pos c]
        have eN : (((2, 0, 0, z), (0, 0 + s'.2.1.length), s'.2.2.2.2) :: s'.2.2.1 : List ps_N).length = 0 + 1 + s'.2.2.1.length := by simp; omega
        refine ⟨_, I2, Ar2, ho, c, w2, rfl, ?_, ⟨⟨by rw [hn, q7]; rfl, by rw [hn]; exact q8, fun _ => (by rw [hn]; exact q9), fun q => (by cases q), fun q => (by cases q)⟩, w6⟩, (hI.tr q5 (Nat.le_refl _)).tr w5 (by omega)⟩
        show rd f T F (((2, 0, 0, z), (0, 0 + s'.2.1.length), s'.2.2.2.2) :: s'.2.2.1 : List ps_N).length T (lst s'.2.1 none) I2 Ar2
        rw [eN, ← c]
        rw [c]
        rw [c] at w4
        exact w4
      · right
        rw [if_neg c]
        refine ⟨⟨I2, Ar2, rfl, (hI.tr q5 (Nat.le_refl _)).tr w5 (by omega)⟩, fun R' g w => ?_⟩
        rw [ho] at g; cases g; exact c w.1
    · right
      refine ⟨⟨I2, Ar2, w1, (hI.tr q5 (Nat.le_refl _)).tr w2 (Nat.le_refl _)⟩, fun R' g w => ?_⟩
      rw [ho] at g
      obtain ⟨s', g1, g2⟩ := Option.bind_eq_some_iff.mp g
      cases g2
      have := w3 s' g1
      rw [this] at w
      cases w.2
end RTR
