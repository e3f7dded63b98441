/-! THE REFERENCE READS A NODE -/
theorem hp_imp {α : Type} {Q Q' : Nat → α → Prop} : ∀ {L : List α} {n : Nat}, hp Q n L → (∀ x a, n ≤ x → x < n + L.length → Q x a → Q' x a) → hp Q' n L := by
  intro L
  induction L with
  | nil => intro n _ _; trivial
  | cons a L ih =>
    intro n h hq
    exact ⟨hq n a (Nat.le_refl _) (by simp) h.1, ih h.2 fun x a q1 q2 => hq x a (by omega) (by simp; omega)⟩
/-- rows that hold a node -/
def nd (Ar : Nat → Nat → Int32) (x : Nat) (M : ps_N) : Prop := Ar 12 x = nI (nk M) ∧ Ar 13 x = nI (np M) ∧ (nk M ≠ 0 → Ar 14 x = nI (nz M)) ∧ (nk M = 1 → Ar 15 x = nI (no M + 2) ∧ Ar 16 x = (nl M).1 ∧ Ar 18 x = (nl M).2.2) ∧ (nk M = 0 → Ar 16 x = (nl M).1 ∧ Ar 17 x = (nl M).2.1 ∧ Ar 18 x = (nl M).2.2)
theorem nd_cg {Ar Ar' : Nat → Nat → Int32} {x : Nat} {M : ps_N} (h : ∀ t, Ar' t x = Ar t x) (q : nd Ar x M) : nd Ar' x M := by
  unfold nd at q ⊢
  simp only [h]
  exact q
theorem hp_nd {Ar Ar' : Nat → Nat → Int32} {I I' : Nat → Int32} {n m : Nat} {L : List ps_N} (h : hp (nd Ar) n L) (hr : rdf m I Ar I' Ar') (hm : n + L.length ≤ m) : hp (nd Ar') n L := hp_imp h fun x a _ q2 q3 => nd_cg (fun t => hr.2.2 t x (by omega)) q3
section RND
variable {N m0 : Nat} {I : Nat → Int32} {Ar : Nat → Nat → Int32} {Aj : Nat → Nat → Int64} {f : Nat → Int32} {T F n p : Nat} {lk : Option Int32}
theorem rd_12 (h : rd f T F n p lk I Ar) (hn : n < 300) (hT : T ≤ 240) (hp : p ≤ T) {up e : Nat} (hd : dp ((md_u (md_u Ar 12 n (f p)) 13 n (nI up)) 13) e n) (he : e < 900) (t0 : Int32) : b_X8_readNode_12 m0 (nI up) t0 (N, md_mk m0 I Ar Aj) =
    if T < p + 1 then some (0, (N, md_mk m0 I Ar Aj)) else
    if 6 < 1 + e then some (0, (N, md_mk m0 (upd (upd I 26 (nI (p + 1))) 16 (nI (n + 1))) (md_u (md_u Ar 12 n (f p)) 13 n (nI up)) Aj)) else
    if f p = 0 then (if t0 = 0 then sw_b2 (f_X8_readLeft m0 (nI n) (N, md_mk m0 (upd (upd I 26 (nI (p + 1))) 16 (nI (n + 1))) (md_u (md_u Ar 12 n (f p)) 13 n (nI up)) Aj)) (fun x s => if x = 0 then b_X8_readNode_117 s else b_X8_readNode_118 1 s) else some (0, (N, md_mk m0 (upd (upd I 26 (nI (p + 1))) 16 (nI (n + 1))) (md_u (md_u Ar 12 n (f p)) 13 n (nI up)) Aj)))
    else if f p = 1 ∨ f p = 2 then b_X8_readNode_139 m0 t0 (nI n) (N, md_mk m0 (upd (upd I 26 (nI (p + 1))) 16 (nI (n + 1))) (md_u (md_u Ar 12 n (f p)) 13 n (nI up)) Aj)
    else some (0, (N, md_mk m0 (upd (upd I 26 (nI (p + 1))) 16 (nI (n + 1))) (md_u (md_u Ar 12 n (f p)) 13 n (nI up)) Aj)) := by
  obtain ⟨h0, h12, h16, h26, hl, h8⟩ := h
  have hth : f_X8_there m0 1 (N, md_mk m0 I Ar Aj) = some (if T < p + 1 then 0 else 1) := rd_there (q := 1) h12 h26 hT (by omega) (by omega)
  have hdp : f_X8_depth m0 (nI n) (N, md_mk m0 (upd (upd I 26 (nI (p + 1))) 16 (nI (n + 1))) (md_u (md_u Ar 12 n (f p)) 13 n (nI up)) Aj) = some (nI (1 + e)) := rd_depth e n 1 1000 hd (by omega)
  have e300 : ¬ nI n = 300 := fun q => by have := (nI_eq (b := 300) (by omega) (by omega)).mp q; omega
  unfold b_X8_readNode_12
  rw [md_g16, Option.bind_some, h16, if_neg e300, md_ob, Option.bind_some, hth, Option.bind_some]
  by_cases c1 : T < p + 1
  · rw [if_pos c1, if_pos rfl, if_pos c1]; rfl
  · rw [if_neg c1, if_neg (by decide), if_neg c1, Option.bind_some, md_r17, Option.bind_some, md_r11, Option.bind_some, md_g26, Option.bind_some, Option.bind_some, h26, md_l8, sw_ix_nI (by omega) (by omega), Option.bind_some, Option.bind_some, h8, Option.bind_some, md_s12, sw_ix_nI hn (by omega), Option.bind_some, Option.bind_some, md_r18, Option.bind_some, Option.bind_some, md_s13, sw_ix_nI hn (by omega), Option.bind_some, Option.bind_some, md_g26, Option.bind_some, h26, nI_1, md_p26, Option.bind_some, md_g16, Option.bind_some, pk_un (by decide), h16, nI_1, md_p16, Option.bind_some, md_ob, Option.bind_some, hdp, Option.bind_some]
    by_cases c2 : 6 < 1 + e
    · rw [if_neg (fun q => by have := (nI_leI (b := 6) (by omega) (by omega)).mp q; omega), if_pos c2]
    · rw [if_pos (show nI (1 + e) ≤ 6 from nI_le (b := 6) (by omega) (by omega)), if_neg c2, md_r17, Option.bind_some, Option.bind_some, md_l12, sw_ix_nI hn (by omega), Option.bind_some, Option.bind_some, mu_n (Or.inl (by decide)), mu_e]
      by_cases c3 : f p = 0
      · rw [if_pos c3, if_pos c3]
        by_cases c4 : t0 = 0
        · rw [if_pos c4, if_pos c4, Option.bind_some]
        · rw [if_neg c4, if_neg c4]; rfl
      · rw [if_neg c3, if_neg c3, Option.bind_some, Option.bind_some, md_l12, sw_ix_nI hn (by omega), Option.bind_some, Option.bind_some, mu_n (Or.inl (by decide)), mu_e]
        by_cases c5 : f p = 1
        · rw [if_pos c5, if_pos (Or.inl c5)]
        · rw [if_neg c5, Option.bind_some, Option.bind_some, md_l12, sw_ix_nI hn (by omega), Option.bind_some, Option.bind_some, mu_n (Or.inl (by decide)), mu_e]
          by_cases c6 : f p = 2
          · rw [if_pos c6, if_pos (Or.inr c6)]
          · rw [if_neg c6, if_neg (fun q => q.elim c5 c6)]; rfl
theorem rd_139 (h : rd f T F n p lk I Ar) (hT : T ≤ 240) (hp : p ≤ T) {x : Nat} (hx : x < 300) (t0 : Int32) : b_X8_readNode_139 m0 t0 (nI x) (N, md_mk m0 I Ar Aj) =
    if T < p + 1 then some (0, (N, md_mk m0 I Ar Aj)) else
    if Ar 12 x = 1 then sw_b2 (f_X8_readLeaf m0 (nI x) (f p) t0 (N, md_mk m0 (upd I 26 (nI (p + 1))) Ar Aj)) (fun y s => (sw_z y).bind fun z => some (z, s))
    else b_X8_readNode_208 m0 (f p) (if t0 = 0 then 1 else 2) (f p) (N, md_mk m0 (upd I 26 (nI (p + 1))) (md_u Ar 14 x (f p)) Aj) := by
  obtain ⟨h0, h12, h16, h26, hl, h8⟩ := h
  have hth : f_X8_there m0 1 (N, md_mk m0 I Ar Aj) = some (if T < p + 1 then 0 else 1) := rd_there (q := 1) h12 h26 hT (by omega) (by omega)
  unfold b_X8_readNode_139
  rw [md_ob, Option.bind_some, hth, Option.bind_some]
  by_cases c1 : T < p + 1
  · rw [if_pos c1, if_pos rfl, if_pos c1]; rfl
  · rw [if_neg c1, if_neg (by decide), if_neg c1, md_r11, Option.bind_some, md_g26, Option.bind_some, Option.bind_some, h26, md_l8, sw_ix_nI (by omega) (by omega), Option.bind_some, Option.bind_some, h8, Option.bind_some, nI_1, md_p26, Option.bind_some, md_r17, Option.bind_some, Option.bind_some, md_l12, sw_ix_nI hx (by omega), Option.bind_some, Option.bind_some]
    by_cases c2 : Ar 12 x = 1
    · rw [if_pos c2, if_pos c2, md_ob, Option.bind_some]
    · rw [if_neg c2, if_neg c2, md_r19, Option.bind_some, Option.bind_some, md_s14, sw_ix_nI hx (by omega), Option.bind_some, Option.bind_some]
      by_cases c3 : t0 = 0
      · rw [if_pos c3, if_pos c3]
      · rw [if_neg c3, if_neg c3]
theorem rd_leaf (h : rd f T F n p lk I Ar) (hT : T ≤ 240) (hp : p ≤ T) (hF : F ≤ 5) {x lo : Nat} (hx : x < 300) (hlo : lo ≤ 2) (v2 : Int32) :
    ((∀ z, ps_z F lo v2 = some z → p + 2 * z ≤ T → ri (ps_lf f p z) lk = false) ∧ ∃ I' Ar', b_X8_readLeaf_10 m0 (nI x) v2 (nI lo) v2 (N, md_mk m0 I Ar Aj) = some (0, (N, md_mk m0 I' Ar' Aj)) ∧ rdf x I Ar I' Ar') ∨
    (∃ z, ps_z F lo v2 = some z ∧ p + 2 * z ≤ T ∧ ri (ps_lf f p z) lk = true ∧ ∃ I' Ar', b_X8_readLeaf_10 m0 (nI x) v2 (nI lo) v2 (N, md_mk m0 I Ar Aj) = some (1, (N, md_mk m0 I' Ar' Aj)) ∧ rdf x I Ar I' Ar' ∧ rd f T F n (p + 2 * z) (lst (ps_lf f p z) lk) I' Ar' ∧ Ar' = md_u (md_u (md_u (md_u Ar 15 x (nI p)) 14 x (nI z)) 18 x (nI z)) 16 x (if z = 0 then 0 else f p)) := by
  obtain ⟨h0, h12, h16, h26, hl, h8⟩ := h
  unfold b_X8_readLeaf_10
  by_cases c1 : v2 < nI lo
  · left
    refine ⟨fun z hz => ?_, I, Ar, by rw [if_pos c1]; rfl, rdf.rf⟩
    unfold ps_z at hz
    rw [if_pos c1] at hz; cases hz
  · rw [if_neg c1, md_g0, Option.bind_some, h0]
    by_cases c2 : nI F < v2
    · left
      refine ⟨fun z hz => ?_, I, Ar, by rw [if_pos c2]; rfl, rdf.rf⟩
      unfold ps_z at hz
      rw [if_neg c1, if_pos c2] at hz; cases hz
    · have hzz : ps_z F lo v2 = some v2.toNatClampNeg := by unfold ps_z; rw [if_neg c1, if_neg c2]
      obtain ⟨ez, -, hzF⟩ := ps_z_some hF hlo hzz
      generalize v2.toNatClampNeg = z at ez hzF hzz
      subst ez
      have hth : f_X8_there m0 (2 * nI z) (N, md_mk m0 I Ar Aj) = some (if T < p + 2 * z then 0 else 1) := by
        rw [show (2 : Int32) = nI 2 from rfl, pk_mul]
        exact rd_there h12 h26 hT (by omega) (by omega)
      rw [if_neg c2, md_ob, Option.bind_some, hth, Option.bind_some]
      by_cases c3 : T < p + 2 * z
      · left
        refine ⟨fun z' hz' g => ?_, I, Ar, by rw [if_pos c3, if_pos rfl]; rfl, rdf.rf⟩
        rw [hzz] at hz'; cases hz'; omega
      · rw [if_neg c3, if_neg (by decide), md_r20, Option.bind_some, md_g26, Option.bind_some, Option.bind_some, h26, md_s15, sw_ix_nI hx (by omega), Option.bind_some, Option.bind_some, md_r19, Option.bind_some, Option.bind_some, md_s14, sw_ix_nI hx (by omega), Option.bind_some, Option.bind_some, md_r23, Option.bind_some, Option.bind_some, md_s18, sw_ix_nI hx (by omega), Option.bind_some, Option.bind_some, md_r21, Option.bind_some]
        have h79 : (if nI z ≤ 0 then b_X8_readLeaf_79 m0 (nI z) 0 (nI x) (some (m0 + 16)) (N, md_mk m0 I (md_u (md_u (md_u Ar 15 x (nI p)) 14 x (nI z)) 18 x (nI z)) Aj) else (sw_gR 8 m0 11 (N, md_mk m0 I (md_u (md_u (md_u Ar 15 x (nI p)) 14 x (nI z)) 18 x (nI z)) Aj)).bind fun r30 => (sw_gI 8 m0 26 (N, md_mk m0 I (md_u (md_u (md_u Ar 15 x (nI p)) 14 x (nI z)) 18 x (nI z)) Aj)).bind fun x32 => r30.bind fun a34 => (sw_al 0 a34 x32 (N, md_mk m0 I (md_u (md_u (md_u Ar 15 x (nI p)) 14 x (nI z)) 18 x (nI z)) Aj)).bind fun x36 => b_X8_readLeaf_79 m0 (nI z) x36 (nI x) (some (m0 + 16)) (N, md_mk m0 I (md_u (md_u (md_u Ar 15 x (nI p)) 14 x (nI z)) 18 x (nI z)) Aj)) = b_X8_readLeaf_79 m0 (nI z) (if z = 0 then 0 else f p) (nI x) (some (m0 + 16)) (N, md_mk m0 I (md_u (md_u (md_u Ar 15 x (nI p)) 14 x (nI z)) 18 x (nI z)) Aj) := by
          by_cases q : z = 0
          · subst q
            rw [if_pos (by decide), if_pos rfl]
          · rw [if_neg (nI_nle (by omega) (by omega)), if_neg q, md_r11, Option.bind_some, md_g26, Option.bind_some, Option.bind_some, h26, md_l8, sw_ix_nI (by omega) (by omega), Option.bind_some, Option.bind_some, mu_r (by decide), mu_r (by decide), mu_r (by decide), h8]
        rw [h79]
        unfold b_X8_readLeaf_79
        rw [Option.bind_some, md_s16, sw_ix_nI hx (by omega), Option.bind_some, Option.bind_some]
        generalize hA : md_u (md_u (md_u (md_u Ar 15 x (nI p)) 14 x (nI z)) 18 x (nI z)) 16 x (if z = 0 then 0 else f p) = A1
        have fA : rdf x I Ar I A1 := by
          rw [← hA]
          exact (((rdf.rf.u (by omega) (Nat.le_refl _) _).u (by omega) (Nat.le_refl _) _).u (by omega) (Nat.le_refl _) _).u (by omega) (Nat.le_refl _) _
        have A8 : A1 8 = f := by rw [fA.2.1 8 (by omega)]; exact h8
        obtain ⟨I', k1, k2⟩ := rd_keys (N := N) (m0 := m0) (Aj := Aj) (p := p) (T := T) (f := f) (lk := lk) (z := z) (Ar := A1) (by omega) hT (by omega) A8 z 0 1000 (I := I) (by omega) (by omega) h26 hl rfl
        have fI : rdf x I Ar I' A1 := ⟨fun t _ b c d => (k1 t b c d), fA.2⟩
        rcases k2 with ⟨k2, k3, k4, k5⟩ | ⟨k2, k3⟩
        · right
          exact ⟨z, hzz, by omega, k2, I', A1, k3, fI, ⟨(k1 0 (by decide) (by decide) (by decide)).trans h0, (k1 12 (by decide) (by decide) (by decide)).trans h12, (k1 16 (by decide) (by decide) (by decide)).trans h16, k4, k5, A8⟩, hA.symm⟩
        · left
          refine ⟨fun z' hz' _ => ?_, I', A1, k3, fI⟩
          rw [hzz] at hz'; cases hz'; exact k2
theorem rd_208 {v : Int32} {lo : Nat} (h0 : I 0 = nI F) : b_X8_readNode_208 m0 v (nI lo) v (N, md_mk m0 I Ar Aj) = some ((match ps_z F lo v with | some _ => 1 | none => 0), (N, md_mk m0 I Ar Aj)) := by
  unfold b_X8_readNode_208 ps_z
  by_cases c1 : v < nI lo
  · rw [if_pos c1, if_pos c1]; rfl
  · rw [if_neg c1, if_neg c1, md_g0, Option.bind_some, h0]
    by_cases c2 : nI F < v
    · rw [if_pos c2, if_pos c2]; rfl
    · rw [if_neg c2, if_neg c2]; rfl
/-- one node -/
theorem rd_node (h : rd f T F n p lk I Ar) (hF : F ≤ 5) (hn : n < 299) (hT : T ≤ 240) (hpT : p ≤ T) {up k d e : Nat} (hd : dp ((md_u (md_u Ar 12 n (f p)) 13 n (nI up)) 13) e n) (he : e + d = 5) :
    (∃ I' Ar', f_X8_readNode m0 (nI up) (N, md_mk m0 I Ar Aj) = some (0, (N, md_mk m0 I' Ar' Aj)) ∧ rdf n I Ar I' Ar' ∧ ∀ R, ps f T F (d + 1) (decide (n = 0)) up n k p = some R → ri R.2.1 lk = false) ∨
    (∃ R I' Ar', ps f T F (d + 1) (decide (n = 0)) up n k p = some R ∧ f_X8_readNode m0 (nI up) (N, md_mk m0 I Ar Aj) = some (1, (N, md_mk m0 I' Ar' Aj)) ∧ rdf n I Ar I' Ar' ∧ ri R.2.1 lk = true ∧ f p ≠ 2 ∧ rd f T F (n + 1) R.1 (lst R.2.1 lk) I' Ar' ∧ hp (nd Ar') n R.2.2.1 ∧ R.2.2.1.length = 1 ∧ Ar' 12 n ≠ 2 ∧ Ar' 13 n = nI up) ∨
    (∃ z I' Ar', f p = 2 ∧ p + 2 ≤ T ∧ ps_z F (if decide (n = 0) = true then 2 else 1) (f (p + 1)) = some z ∧ f_X8_readNode m0 (nI up) (N, md_mk m0 I Ar Aj) = some (1, (N, md_mk m0 I' Ar' Aj)) ∧ rdf n I Ar I' Ar' ∧ rd f T F (n + 1) (p + 2) lk I' Ar' ∧ Ar' 12 n = 2 ∧ Ar' 13 n = nI up ∧ Ar' 14 n = nI z) := by
  have hrn : f_X8_readNode m0 (nI up) (N, md_mk m0 I Ar Aj) = b_X8_readNode_12 m0 (nI up) (if n = 0 then 1 else 0) (N, md_mk m0 I Ar Aj) := by
    unfold f_X8_readNode
    rw [md_g16, Option.bind_some, h.2.2.1]
    by_cases q : n = 0
    · subst q; rw [if_pos (by decide), if_pos rfl]
    · rw [if_neg (show ¬ nI n = 0 from fun g => q ((nI_eq (b := 0) (by omega) (by omega)).mp g)), if_neg q]
  rw [hrn, rd_12 h (by omega) hT hpT hd (by omega)]
  obtain ⟨h0, h12, h16, h26, hl, h8⟩ := h
  have fA : rdf n I Ar (upd (upd I 26 (nI (p + 1))) 16 (nI (n + 1))) (md_u (md_u Ar 12 n (f p)) 13 n (nI up)) := (((rdf.rf.u (by omega) (Nat.le_refl _) _).u (by omega) (Nat.le_refl _) _).p (by omega) _).p (by omega) _
  have hA12 : md_u (md_u Ar 12 n (f p)) 13 n (nI up) 12 n = f p := by rw [mu_n (Or.inl (by decide)), mu_e]
  have hA13 : md_u (md_u Ar 12 n (f p)) 13 n (nI up) 13 n = nI up := mu_e
  have hA8 : md_u (md_u Ar 12 n (f p)) 13 n (nI up) 8 = f := by rw [mu_r (by decide), mu_r (by decide)]; exact h8
  have hl1 : ∀ v w, rl (upd (upd I 26 v) 16 w) lk := by
    intro v w
    cases lk with
    | none => show upd (upd I 26 _) 16 _ 27 = 0; rw [pk_un (by decide), pk_un (by decide)]; exact hl
    | some b => show upd (upd I 26 _) 16 _ 27 = 1 ∧ upd (upd I 26 _) 16 _ 28 = b; rw [pk_un (by decide), pk_un (by decide), pk_un (by decide), pk_un (by decide)]; exact hl
  have hr1 : rd f T F (n + 1) (p + 1) lk (upd (upd I 26 (nI (p + 1))) 16 (nI (n + 1))) (md_u (md_u Ar 12 n (f p)) 13 n (nI up)) := ⟨by rw [pk_un (by decide), pk_un (by decide)]; exact h0, by rw [pk_un (by decide), pk_un (by decide)]; exact h12, pk_us, by rw [pk_un (by decide), pk_us], hl1 _ _, hA8⟩
  generalize hI1 : upd (upd I 26 (nI (p + 1))) 16 (nI (n + 1)) = I1 at *
  generalize hA1 : md_u (md_u Ar 12 n (f p)) 13 n (nI up) = A1 at *
  by_cases c1 : T < p + 1
  · left
    refine ⟨I, Ar, by rw [if_pos c1], rdf.rf, fun R g => ?_⟩
    unfold ps at g
    rw [if_pos (by omega)] at g; cases g
  · rw [if_neg c1, if_neg (by omega)]
    by_cases k0 : f p = 0
    · rw [if_pos k0]
      have ho : ps f T F (d + 1) (decide (n = 0)) up n k p = if T < p + 2 then none else (if decide (n = 0) = true ∨ T < p + 4 ∨ f (p + 3) < 1 then none else some (p + 4, [(f (p + 1), f (p + 3), 1)], [((0, up, p, 0), (k, k + 1), (f (p + 1), f (p + 2), f (p + 3)))], [], (f (p + 1), f (p + 2), f (p + 3)))) := by
        conv => lhs; unfold ps
        rw [if_pos k0]
      by_cases q : n = 0
      · left
        refine ⟨I1, A1, by rw [if_pos q, if_neg (by decide)], fA, fun R g => ?_⟩
        rw [ho] at g
        by_cases c2 : T < p + 2
        · rw [if_pos c2] at g; cases g
        · rw [if_neg c2, if_pos (Or.inl (by simp [q]))] at g; cases g
      · rw [if_neg q, if_pos rfl]
        rcases rd_left (N := N) (m0 := m0) (Aj := Aj) hr1 hT (by omega) (x := n) (by omega) with ⟨l1, I', Ar', l2, l3⟩ | ⟨l1, l2, l3, I', Ar', l4, l5, l6, l7⟩
        · left
          refine ⟨I', Ar', by rw [l2, cw_b2, if_pos rfl]; rfl, fA.tr l3 (Nat.le_refl _), fun R g => ?_⟩
          rw [ho] at g
          by_cases c2 : T < p + 2
          · rw [if_pos c2] at g; cases g
          · rw [if_neg c2] at g
            by_cases c3 : decide (n = 0) = true ∨ T < p + 4 ∨ f (p + 3) < 1
            · rw [if_pos c3] at g; cases g
            · rw [if_neg c3] at g
              cases g
              rcases l1 with l1 | l1 | l1
              · exact absurd (Or.inr (Or.inl (by omega))) c3
              · exact absurd (Or.inr (Or.inr l1)) c3
              · show (ok1 lk (f (p + 1)) && true) = false
                rw [l1]; rfl
        · right; left
          have hA' : Ar' = md_u (md_u (md_u A1 16 n (f (p + 1))) 17 n (f (p + 2))) 18 n (f (p + 3)) := l7
          have f12 : Ar' 12 n = f p := by rw [hA', mu_n (Or.inl (by decide)), mu_n (Or.inl (by decide)), mu_n (Or.inl (by decide))]; exact hA12
          have f13 : Ar' 13 n = nI up := by rw [hA', mu_n (Or.inl (by decide)), mu_n (Or.inl (by decide)), mu_n (Or.inl (by decide))]; exact hA13
          refine ⟨(p + 4, [(f (p + 1), f (p + 3), 1)], [((0, up, p, 0), (k, k + 1), (f (p + 1), f (p + 2), f (p + 3)))], [], (f (p + 1), f (p + 2), f (p + 3))), I', Ar', by rw [ho, if_neg (by omega), if_neg]; intro g; rcases g with g | g | g; (· exact q (by simpa using g)); (· omega); exact l2 g, by rw [l4, cw_b2, if_neg (by decide)]; rfl, fA.tr l5 (Nat.le_refl _), ?_, by rw [k0]; decide, l6, ⟨⟨?_, f13, fun g => absurd rfl g, fun g => ?_, fun _ => ?_⟩, trivial⟩, rfl, by rw [f12, k0]; decide, f13⟩
          · show (ok1 lk (f (p + 1)) && true) = true
            rw [l3]; rfl
          · rw [f12, k0]; rfl
          · cases g
          · exact ⟨by rw [hA', mu_n (Or.inl (by decide)), mu_n (Or.inl (by decide)), mu_e], by rw [hA', mu_n (Or.inl (by decide)), mu_e], by rw [hA', mu_e]⟩
    · rw [if_neg k0]
      by_cases k1 : f p = 1
      · rw [if_pos (Or.inl k1), rd_139 hr1 hT (by omega) (x := n) (by omega)]
        have ho : ps f T F (d + 1) (decide (n = 0)) up n k p = if T < p + 2 then none else ((ps_z F (if decide (n = 0) = true then 0 else 1) (f (p + 1))).bind fun z => if T < p + 2 + 2 * z then none else some (p + 2 + 2 * z, ps_lf f (p + 2) z, [((1, up, p, z), (k, k + z), ps_ll f (p + 2) z)], [], ps_ll f (p + 2) z)) := by
          conv => lhs; unfold ps
          rw [if_neg k0, if_pos k1]
        by_cases c2 : T < p + 1 + 1
        · left
          refine ⟨I1, A1, by rw [if_pos c2], fA, fun R g => ?_⟩
          rw [ho, if_pos (by omega)] at g; cases g
        · rw [if_neg c2, if_pos (by rw [hA12]; exact k1)]
          have hr2 : rd f T F (n + 1) (p + 2) lk (upd I1 26 (nI (p + 1 + 1))) A1 := by
            obtain ⟨r0, r12, r16, r26, rrl, r8⟩ := hr1
            refine ⟨by rw [pk_un (by decide)]; exact r0, by rw [pk_un (by decide)]; exact r12, by rw [pk_un (by decide)]; exact r16, pk_us, ?_, r8⟩
            cases lk with
            | none => show upd I1 26 _ 27 = 0; rw [pk_un (by decide)]; exact rrl
            | some b => show upd I1 26 _ 27 = 1 ∧ upd I1 26 _ 28 = b; rw [pk_un (by decide), pk_un (by decide)]; exact rrl
          have f2 : rdf n I Ar (upd I1 26 (nI (p + 1 + 1))) A1 := fA.p (by omega) _
          have hlf : f_X8_readLeaf m0 (nI n) (f (p + 1)) (if n = 0 then 1 else 0) (N, md_mk m0 (upd I1 26 (nI (p + 1 + 1))) A1 Aj) = b_X8_readLeaf_10 m0 (nI n) (f (p + 1)) (nI (if decide (n = 0) = true then 0 else 1)) (f (p + 1)) (N, md_mk m0 (upd I1 26 (nI (p + 1 + 1))) A1 Aj) := by
            unfold f_X8_readLeaf
            by_cases q : n = 0
            · rw [if_pos q, if_neg (by decide), if_pos (by simp [q])]; rfl
            · rw [if_neg q, if_pos rfl, if_neg (by simp [q])]; rfl
          rw [hlf]
          generalize hlo : (if decide (n = 0) = true then 0 else 1) = lo at ho ⊢
          have hlo2 : lo ≤ 2 := by rw [← hlo]; split <;> omega
          rcases rd_leaf (N := N) (m0 := m0) (Aj := Aj) hr2 hT (by omega) hF (x := n) (by omega) hlo2 (f (p + 1)) with ⟨l1, I', Ar', l2, l3⟩ | ⟨z, l1, l2, l3, I', Ar', l4, l5, l6, l7⟩
          · left
            refine ⟨I', Ar', by rw [l2, cw_b2]; rfl, f2.tr l3 (Nat.le_refl _), fun R g => ?_⟩
            rw [ho, if_neg (by omega)] at g
            obtain ⟨z, hz, g⟩ := Option.bind_eq_some_iff.mp g
            by_cases c4 : T < p + 2 + 2 * z
            · rw [if_pos c4] at g; cases g
            · rw [if_neg c4] at g
              cases g
              exact l1 z hz (by omega)
          · right; left
            have f12 : Ar' 12 n = f p := by rw [l7, mu_n (Or.inl (by decide)), mu_n (Or.inl (by decide)), mu_n (Or.inl (by decide)), mu_n (Or.inl (by decide))]; exact hA12
            have f13 : Ar' 13 n = nI up := by rw [l7, mu_n (Or.inl (by decide)), mu_n (Or.inl (by decide)), mu_n (Or.inl (by decide)), mu_n (Or.inl (by decide))]; exact hA13
            refine ⟨(p + 2 + 2 * z, ps_lf f (p + 2) z, [((1, up, p, z), (k, k + z), ps_ll f (p + 2) z)], [], ps_ll f (p + 2) z), I', Ar', by rw [ho, if_neg (by omega), l1, Option.bind_some, if_neg (by omega)], by rw [l4, cw_b2]; rfl, f2.tr l5 (Nat.le_refl _), l3, by rw [k1]; decide, l6, ⟨⟨?_, f13, fun _ => ?_, fun _ => ?_, fun g => ?_⟩, trivial⟩, rfl, by rw [f12, k1]; decide, f13⟩
            · rw [f12, k1]; rfl
            · rw [l7, mu_n (Or.inl (by decide)), mu_n (Or.inl (by decide)), mu_e]
            · exact ⟨by rw [l7, mu_n (Or.inl (by decide)), mu_n (Or.inl (by decide)), mu_n (Or.inl (by decide)), mu_e], by rw [l7, mu_e]; rfl, by rw [l7, mu_n (Or.inl (by decide)), mu_e]; rfl⟩
            · cases g
      · by_cases k2 : f p = 2
        · rw [if_pos (Or.inr k2), rd_139 hr1 hT (by omega) (x := n) (by omega)]
          have ho : ∀ R, ps f T F (d + 1) (decide (n = 0)) up n k p = some R → p + 2 ≤ T ∧ ∃ z, ps_z F (if decide (n = 0) = true then 2 else 1) (f (p + 1)) = some z := by
            intro R g
            unfold ps at g
            by_cases c2 : T < p + 2
            · rw [if_pos c2] at g; cases g
            · rw [if_neg c2, if_neg k0, if_neg k1, if_pos k2] at g
              obtain ⟨z, hz, -⟩ := Option.bind_eq_some_iff.mp g
              exact ⟨by omega, z, hz⟩
          by_cases c2 : T < p + 1 + 1
          · left
            refine ⟨I1, A1, by rw [if_pos c2], fA, fun R g => ?_⟩
            have := (ho R g).1
            omega
          · rw [if_neg c2, if_neg (by rw [hA12]; exact k1)]
            have hlo : (if (if n = 0 then (1 : Int32) else 0) = 0 then (1 : Int32) else 2) = nI (if decide (n = 0) = true then 2 else 1) := by
              by_cases q : n = 0
              · simp [q]; rfl
              · simp [q]; rfl
            have e0 : upd I1 26 (nI (p + 1 + 1)) 0 = nI F := by rw [pk_un (by decide)]; exact hr1.1
            rw [hlo, rd_208 e0]
            have f2 : rdf n I Ar (upd I1 26 (nI (p + 1 + 1))) (md_u A1 14 n (f (p + 1))) := (fA.u (by omega) (Nat.le_refl _) _).p (by omega) _
            cases hz : ps_z F (if decide (n = 0) = true then 2 else 1) (f (p + 1)) with
            | none =>
              left
              refine ⟨_, _, rfl, f2, fun R g => ?_⟩
              obtain ⟨-, z, g⟩ := ho R g
              rw [hz] at g; cases g
            | some z =>
              right; right
              obtain ⟨ez, -, -⟩ := ps_z_some hF (by split <;> omega) hz
              refine ⟨z, _, _, k2, by omega, rfl, rfl, f2, ?_, ?_, ?_, ?_⟩
              · obtain ⟨r0, r12, r16, r26, rrl, r8⟩ := hr1
                refine ⟨e0, by rw [pk_un (by decide)]; exact r12, by rw [pk_un (by decide)]; exact r16, pk_us, ?_, by rw [mu_r (by decide)]; exact r8⟩
                cases lk with
                | none => show upd I1 26 _ 27 = 0; rw [pk_un (by decide)]; exact rrl
                | some b => show upd I1 26 _ 27 = 1 ∧ upd I1 26 _ 28 = b; rw [pk_un (by decide), pk_un (by decide)]; exact rrl
              · rw [mu_n (Or.inl (by decide)), hA12]; exact k2
              · rw [mu_n (Or.inl (by decide))]; exact hA13
              · rw [mu_e]; exact ez
        · left
          refine ⟨I1, A1, by rw [if_neg (fun g => g.elim k1 k2)], fA, fun R g => ?_⟩
          unfold ps at g
          rw [if_neg k0, if_neg k1, if_neg k2] at g
          by_cases c2 : T < p + 2
          · rw [if_pos c2] at g; cases g
          · rw [if_neg c2] at g; cases g
end RND
