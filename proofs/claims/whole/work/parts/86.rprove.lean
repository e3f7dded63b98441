/-! HOW LONG A PROOF IS -/
def pr_w (Z : Nat → Nat → Nat) : Nat → Nat → Nat
  | 0, k => 2 + 2 * Z 0 k
  | l + 1, k => 2 + pv_sum (fun j => pr_w Z l (pv_sum (Z (l + 1)) k + j)) (Z (l + 1) k)
theorem pr_c_len {g : Nat → List Int32} {w : Nat → Nat} : ∀ (r j : Nat), (∀ i, j ≤ i → i < j + r → (g i).length ≤ w i) → (pr_c g j r).length + pv_sum w j ≤ pv_sum w (j + r) := by
  intro r
  induction r with
  | zero => intro j _; simp [pr_c]
  | succ r ih =>
    intro j h
    have h1 := h j (by omega) (by omega)
    have h2 := ih (j + 1) (fun i a b => h i (by omega) (by omega))
    simp only [pr_c, List.length_append]
    rw [show j + (r + 1) = j + 1 + r by omega]
    have : pv_sum w (j + 1) = pv_sum w j + w j := rfl
    omega
theorem pv_sum_add (w : Nat → Nat) (s : Nat) : ∀ n, pv_sum w (s + n) = pv_sum w s + pv_sum (fun j => w (s + j)) n := by
  intro n
  induction n with
  | zero => rfl
  | succ n ih => show pv_sum w (s + n) + w (s + n) = _ + (_ + w (s + n)); rw [ih]; omega
theorem pr_w_s0 (Z : Nat → Nat → Nat) : ∀ K, pv_sum (pr_w Z 0) K = 2 * K + 2 * pv_sum (Z 0) K := by
  intro K
  induction K with
  | zero => rfl
  | succ K ih => simp only [pv_sum]; rw [ih]; simp only [pr_w]; omega
theorem pr_w_s1 (Z : Nat → Nat → Nat) (l : Nat) : ∀ K, pv_sum (pr_w Z (l + 1)) K = 2 * K + pv_sum (pr_w Z l) (pv_sum (Z (l + 1)) K) := by
  intro K
  induction K with
  | zero => rfl
  | succ K ih =>
    simp only [pv_sum]; rw [ih, pv_sum_add]; simp only [pr_w]; omega
theorem pr_w_all {F : Nat} {S : pv_Sh} {c : Nat} (h : pv_wf F S c) (hc : c ≤ 60) : pr_w S.2.2 (S.1 - 1) 0 ≤ 240 := by
  obtain ⟨f1, f2, f3, f4, f5, f6, f7, f8, f9⟩ := id h
  have hT : ∀ l, l < S.1 → pv_sum (pr_w S.2.2 l) (S.2.1 l) + 2 * S.2.1 l ≤ 2 * c + 4 * S.2.1 0 := by
    intro l
    induction l with
    | zero => intro _; rw [pr_w_s0, f5]; omega
    | succ l ih =>
      intro hl
      have h1 := ih (by omega)
      rw [pr_w_s1, f6 l hl]
      have h2 : S.2.1 (l + 1) * 2 ≤ S.2.1 l := by
        rw [← f6 l hl]
        refine pv_sum_ge (fun k hk => ?_)
        rcases (show l + 2 < S.1 ∨ l + 1 = S.1 - 1 by omega) with q | q
        · have := f7 (l + 1) k q hk; omega
        · have := f9 (by omega)
          rw [q] at hk ⊢
          rw [f4] at hk
          obtain rfl : k = 0 := by omega
          exact this
      omega
  have h1 := hT (S.1 - 1) (by omega)
  rw [f4] at h1
  have h2 : pv_sum (pr_w S.2.2 (S.1 - 1)) 1 = pr_w S.2.2 (S.1 - 1) 0 := by simp [pv_sum]
  rcases (show S.1 = 1 ∨ 1 < S.1 by omega) with q | q
  · have hc0 : S.2.1 0 = 1 := by rw [q] at f4; exact f4
    omega
  · have h3 : S.2.1 0 * 2 ≤ c := by
      rw [← f5]
      refine pv_sum_ge (fun k hk => ?_)
      have := f7 0 k (by omega) hk; omega
    omega
theorem pr_w4 {F : Nat} {S : pv_Sh} {c : Nat} (h : pv_wf F S c) (h1 : 1 < S.1) : ∀ l, l < S.1 → ∀ k, k < S.2.1 l → 4 ≤ pr_w S.2.2 l k := by
  intro l
  induction l with
  | zero => intro hl k hk; have := h.pos hl hk h1; simp only [pr_w]; omega
  | succ l ih =>
    intro hl k hk
    have hz := h.pos hl hk h1
    have := ih (by omega) _ (h.sumC hl hk (j := 0) hz)
    simp only [pr_w]
    obtain ⟨m, hm⟩ : ∃ m, S.2.2 (l + 1) k = m + 1 := ⟨S.2.2 (l + 1) k - 1, by omega⟩
    have h2 := pv_sum_mono (fun j => pr_w S.2.2 l (pv_sum (S.2.2 (l + 1)) k + j)) 1 m
    rw [hm, Nat.add_comm m 1]
    have h3 : pv_sum (fun j => pr_w S.2.2 l (pv_sum (S.2.2 (l + 1)) k + j)) 1 = pr_w S.2.2 l (pv_sum (S.2.2 (l + 1)) k + 0) := by simp [pv_sum]
    omega
theorem pr_len {F : Nat} {S : pv_Sh} {c : Nat} {Ek Ev : Nat → Int32} {q : Int64 → Int64 → Bool} (h : pv_wf F S c) : ∀ l, l < S.1 → ∀ k, k < S.2.1 l → ∀ fr en, (pr_f q S.2.2 Ek Ev l k fr en).length ≤ pr_w S.2.2 l k := by
  intro l
  induction l with
  | zero =>
    intro hl k hk fr en
    have h1 := pr_c_len (g := fun j => [Ek (pv_sum (S.2.2 0) k + j), Ev (pv_sum (S.2.2 0) k + j)]) (w := fun _ => 2) (S.2.2 0 k) 0 (fun _ _ _ => Nat.le_refl _)
    have h2 : ∀ n, pv_sum (fun _ => 2) n = 2 * n := by
      intro n
      induction n with
      | zero => rfl
      | succ n ih => simp only [pv_sum]; omega
    rw [h2, h2, Nat.zero_add] at h1
    simp only [pr_f, pr_w, List.length_cons]; omega
  | succ l ih =>
    intro hl k hk fr en
    rw [pr_f_s]
    have h1 := pr_c_len (g := pr_g q S.2.2 Ek Ev l k fr en) (w := fun j => pr_w S.2.2 l (pv_sum (S.2.2 (l + 1)) k + j)) (S.2.2 (l + 1) k) 0 (fun j _ hj => by
      have hx := h.sumC hl hk (j := j) (by omega)
      unfold pr_g
      split
      · exact pr_w4 h (by omega) l (by omega) _ hx
      · exact ih (by omega) _ hx _ _)
    rw [Nat.zero_add] at h1
    simp only [pr_w, List.length_cons]
    simp only [pv_sum] at h1
    omega
/-! THE REFERENCE'S prove -/
/-- the reference's tree as prove reads it -/
def rt (I : Nat → Int32) (Ar : Nat → Nat → Int32) (S : pv_Sh) (Ek Ev : Nat → Int32) : Prop := I 5 = nI S.1 ∧ Ar 1 = Ek ∧ Ar 2 = Ev ∧ ∀ l, l < S.1 → ∀ k, k < S.2.1 l → Ar 3 (64 * l + k) = nI (S.2.2 l k) ∧ Ar 6 (64 * l + k) = nI (pv_fi S.2.2 l k) ∧ Ar 7 (64 * l + k) = pv_cn S.2.2 l k ∧ Ar 5 (64 * l + k) = pv_dg S.2.2 Ek Ev l k
def rp (I : Nat → Int32) (Ar : Nat → Nat → Int32) (L : List Int32) : Prop := I 12 = nI L.length ∧ tk (Ar 8) L
def rp_f2 (I I' : Nat → Int32) (Ar Ar' : Nat → Nat → Int32) : Prop := (∀ j, j ≠ 12 → I' j = I j) ∧ ∀ t, t ≠ 8 → Ar' t = Ar t
theorem rp_f2.rf {I : Nat → Int32} {Ar : Nat → Nat → Int32} : rp_f2 I I Ar Ar := ⟨fun _ _ => rfl, fun _ _ => rfl⟩
theorem rp_f2.tr {I I1 I2 : Nat → Int32} {Ar Ar1 Ar2 : Nat → Nat → Int32} (h : rp_f2 I I1 Ar Ar1) (h2 : rp_f2 I1 I2 Ar1 Ar2) : rp_f2 I I2 Ar Ar2 := ⟨fun j hj => (h2.1 j hj).trans (h.1 j hj), fun t ht => (h2.2 t ht).trans (h.2 t ht)⟩
def rp_fr (top : Nat) (I I' : Nat → Int32) (Ar Ar' : Nat → Nat → Int32) (Aj Aj' : Nat → Nat → Int64) : Prop := (∀ j, j ≠ 12 → I' j = I j) ∧ (∀ t, t ≠ 8 → t ≠ 9 → Ar' t = Ar t) ∧ (∀ t, t ≠ 10 → t ≠ 11 → Aj' t = Aj t) ∧ ∀ i, i < top → Ar' 9 i = Ar 9 i ∧ Aj' 10 i = Aj 10 i ∧ Aj' 11 i = Aj 11 i
theorem rp_fr.tr {top : Nat} {I I1 I2 : Nat → Int32} {Ar Ar1 Ar2 : Nat → Nat → Int32} {Aj Aj1 Aj2 : Nat → Nat → Int64} (h : rp_fr top I I1 Ar Ar1 Aj Aj1) (h2 : rp_fr top I1 I2 Ar1 Ar2 Aj1 Aj2) : rp_fr top I I2 Ar Ar2 Aj Aj2 :=
  ⟨fun j hj => (h2.1 j hj).trans (h.1 j hj), fun t a b => (h2.2.1 t a b).trans (h.2.1 t a b), fun t a b => (h2.2.2.1 t a b).trans (h.2.2.1 t a b), fun i hi => ⟨(h2.2.2.2 i hi).1.trans (h.2.2.2 i hi).1, (h2.2.2.2 i hi).2.1.trans (h.2.2.2 i hi).2.1, (h2.2.2.2 i hi).2.2.trans (h.2.2.2 i hi).2.2⟩⟩
theorem rp_fr.le {top top' : Nat} {I I1 : Nat → Int32} {Ar Ar1 : Nat → Nat → Int32} {Aj Aj1 : Nat → Nat → Int64} (h : rp_fr top' I I1 Ar Ar1 Aj Aj1) (hl : top ≤ top') : rp_fr top I I1 Ar Ar1 Aj Aj1 := ⟨h.1, h.2.1, h.2.2.1, fun i hi => h.2.2.2 i (by omega)⟩
theorem rp_f2.fr {top : Nat} {I I' : Nat → Int32} {Ar Ar' : Nat → Nat → Int32} {Aj : Nat → Nat → Int64} (h : rp_f2 I I' Ar Ar') : rp_fr top I I' Ar Ar' Aj Aj := ⟨h.1, fun t a _ => h.2 t a, fun _ _ _ => rfl, fun i _ => ⟨by rw [h.2 9 (by decide)], rfl, rfl⟩⟩
theorem rt.fr {top : Nat} {I I' : Nat → Int32} {Ar Ar' : Nat → Nat → Int32} {Aj Aj' : Nat → Nat → Int64} {S : pv_Sh} {Ek Ev : Nat → Int32} (h : rt I Ar S Ek Ev) (hf : rp_fr top I I' Ar Ar' Aj Aj') : rt I' Ar' S Ek Ev := by
  refine ⟨(hf.1 5 (by decide)).trans h.1, (hf.2.1 1 (by decide) (by decide)).trans h.2.1, (hf.2.1 2 (by decide) (by decide)).trans h.2.2.1, ?_⟩
  rw [hf.2.1 3 (by decide) (by decide), hf.2.1 5 (by decide) (by decide), hf.2.1 6 (by decide) (by decide), hf.2.1 7 (by decide) (by decide)]
  exact h.2.2.2
section RP
variable {n m0 : Nat}
theorem rp_tell {I : Nat → Int32} {Ar : Nat → Nat → Int32} {L : List Int32} (h : rp I Ar L) (hL : L.length < 600) (x : Int32) (Aj : Nat → Nat → Int64) : ∃ I' Ar', f_X8_tell m0 x (n, md_mk m0 I Ar Aj) = some (n, md_mk m0 I' Ar' Aj) ∧ rp I' Ar' (L ++ [x]) ∧ rp_f2 I I' Ar Ar' := by
  refine ⟨upd I 12 (nI (L.length + 1)), md_u Ar 8 L.length x, ?_, ⟨?_, ?_⟩, fun j hj => pk_un hj, fun t ht => ?_⟩
  · unfold f_X8_tell
    rw [md_r11, Option.bind_some, md_g12, Option.bind_some, Option.bind_some, h.1, md_s8, sw_ix_nI hL (by decide), Option.bind_some, Option.bind_some, md_g12, Option.bind_some, h.1, nI_1, md_p12, Option.bind_some]
  · rw [pk_us]; simp
  · have := h.2.app x
    rw [show md_u Ar 8 L.length x 8 = upd (Ar 8) L.length x from funext fun i => by simp [md_u, upd]]
    exact this
  · funext i; simp [md_u, ht]
variable {S : pv_Sh} {Ek Ev : Nat → Int32} {F c : Nat}
theorem rp_first {I : Nat → Int32} {Ar : Nat → Nat → Int32} {Aj : Nat → Nat → Int64} (h : rt I Ar S Ek Ev) {l k : Nat} (hl : l < S.1) (hl5 : l < 8) (hk : k ≤ S.2.1 l) (hk64 : S.2.1 l < 64) : ∀ (r i fuel : Nat), i + r = k → r < fuel → b_X8_firstChild_5 fuel m0 (nI l) (nI k) (nI (pv_sum (S.2.2 l) i)) (nI i) (n, md_mk m0 I Ar Aj) = some (nI (pv_sum (S.2.2 l) k)) := by
  intro r
  induction r with
  | zero =>
    intro i fuel hi hf
    obtain ⟨f, rfl⟩ : ∃ f, fuel = f + 1 := ⟨fuel - 1, by omega⟩
    obtain rfl : i = k := by omega
    show B_X8_firstChild_5 _ _ _ _ _ _ _ = _
    unfold B_X8_firstChild_5
    rw [if_pos (nI_le (Nat.le_refl _) (by omega))]
  | succ r ih =>
    intro i fuel hi hf
    obtain ⟨f, rfl⟩ : ∃ f, fuel = f + 1 := ⟨fuel - 1, by omega⟩
    show B_X8_firstChild_5 _ _ _ _ _ _ _ = _
    unfold B_X8_firstChild_5
    rw [if_neg (nI_ge (by omega) (by omega)), md_r6, Option.bind_some, Option.bind_some, md_ix, md_l3, sw_ix_nI (by omega) (by decide), Option.bind_some, Option.bind_some, (h.2.2.2 l hl i (by omega)).1, nI_add, nI_1]
    exact ih (i + 1) f (by omega) (by omega)
theorem rp_leaf (I0 : Nat → Int32) (v2 : Int32) {f0 z : Nat} (hz : f0 + z ≤ 60) {Aj : Nat → Nat → Int64} : ∀ (r j fuel : Nat) {I : Nat → Int32} {Ar : Nat → Nat → Int32} {L : List Int32}, j + r = z → r < fuel → Ar 1 = Ek → Ar 2 = Ev → rp I Ar L → (L ++ pr_c (fun j => [Ek (f0 + j), Ev (f0 + j)]) j r).length ≤ 600 →
    ∃ I' Ar', b_X8_tellNode_51 fuel m0 v2 (nI z) (nI f0) (nI (f0 + j)) (n, md_mk m0 I Ar Aj) = some (v2, (n, md_mk m0 I' Ar' Aj)) ∧ rp I' Ar' (L ++ pr_c (fun j => [Ek (f0 + j), Ev (f0 + j)]) j r) ∧ rp_f2 I I' Ar Ar' := by
  intro r
  induction r with
  | zero =>
    intro j fuel I Ar L hj hf h1 h2 h hL
    obtain ⟨f, rfl⟩ : ∃ f, fuel = f + 1 := ⟨fuel - 1, by omega⟩
    refine ⟨I, Ar, ?_, by simpa [pr_c] using h, rp_f2.rf⟩
    show B_X8_tellNode_51 _ _ _ _ _ _ _ = _
    unfold B_X8_tellNode_51
    rw [nI_add, if_pos (nI_le (by omega) (by omega))]
  | succ r ih =>
    intro j fuel I Ar L hj hf h1 h2 h hL
    obtain ⟨f, rfl⟩ : ∃ f, fuel = f + 1 := ⟨fuel - 1, by omega⟩
    simp only [pr_c, List.length_append, List.length_cons, List.length_nil] at hL
    obtain ⟨I1, Ar1, e1, w1, t1⟩ := rp_tell (n := n) (m0 := m0) h (by omega) (Ek (f0 + j)) Aj
    obtain ⟨I2, Ar2, e2, w2, t2⟩ := rp_tell (n := n) (m0 := m0) w1 (by simp; omega) (Ev (f0 + j)) Aj
    have t12 := t1.tr t2
    obtain ⟨I3, Ar3, e3, w3, t3⟩ := ih (j + 1) f (by omega) (by omega) (by rw [t12.2 1 (by decide), h1]) (by rw [t12.2 2 (by decide), h2]) w2 (by simp; omega)
    refine ⟨I3, Ar3, ?_, by simpa [pr_c] using w3, t12.tr t3⟩
    show B_X8_tellNode_51 _ _ _ _ _ _ _ = _
    unfold B_X8_tellNode_51
    rw [nI_add, if_neg (nI_ge (by omega) (by omega)), md_r3, Option.bind_some, Option.bind_some, md_l1, sw_ix_nI (by omega) (by decide), Option.bind_some, Option.bind_some, md_ob, Option.bind_some, h1, e1, Option.bind_some, md_r4, Option.bind_some, Option.bind_some, md_l2, sw_ix_nI (by omega) (by decide), Option.bind_some, Option.bind_some, md_ob, Option.bind_some, t1.2 2 (by decide), h2, e2, Option.bind_some, nI_1]
    exact e3
end RP
