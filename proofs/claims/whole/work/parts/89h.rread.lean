/-! THE REFERENCE READS A PROOF: its pieces -/
def ok1 (lk : Option Int32) (v : Int32) : Bool := match lk with
  | none => true
  | some b => decide (b < v)
def ri : List ps_K → Option Int32 → Bool
  | [], _ => true
  | x :: xs, lk => ok1 lk x.1 && ri xs (some x.1)
def lst : List ps_K → Option Int32 → Option Int32
  | [], lk => lk
  | x :: xs, _ => lst xs (some x.1)
theorem ri_app : ∀ (A : List ps_K) {B : List ps_K} {lk : Option Int32}, ri (A ++ B) lk = (ri A lk && ri B (lst A lk)) := by
  intro A
  induction A with
  | nil => intro B lk; rfl
  | cons a A ih => intro B lk; simp only [List.cons_append, ri, lst, ih, Bool.and_assoc]
theorem lst_app : ∀ (A : List ps_K) {B : List ps_K} {lk : Option Int32}, lst (A ++ B) lk = lst B (lst A lk) := by
  intro A
  induction A with
  | nil => intro B lk; rfl
  | cons a A ih => intro B lk; simp only [List.cons_append, lst, ih]
theorem kk_s (a : ps_K) (K : List ps_K) (j : Nat) : kk (a :: K) (j + 1) = kk K j := by simp [kk]
theorem kk_0 (a : ps_K) (K : List ps_K) : kk (a :: K) 0 = a := by simp [kk]
theorem ri_k : ∀ (K : List ps_K) (lk : Option Int32), ri K lk = true ↔ (kr K ∧ (0 < K.length → ok1 lk (kk K 0).1 = true)) := by
  intro K
  induction K with
  | nil => intro lk; simp [ri, kr]
  | cons a K ih =>
    intro lk
    simp only [ri, Bool.and_eq_true, ih (some a.1), kk_0]
    constructor
    · rintro ⟨h1, h2, h3⟩
      refine ⟨fun j j1 j2 => ?_, fun _ => h1⟩
      obtain ⟨j, rfl⟩ : ∃ i, j = i + 1 := ⟨j - 1, by omega⟩
      simp only [List.length_cons] at j2
      rw [Nat.add_sub_cancel, kk_s]
      by_cases q : j = 0
      · subst q
        rw [kk_0]
        have := h3 (by omega)
        simpa [ok1] using this
      · have := h2 j (by omega) (by omega)
        obtain ⟨i, rfl⟩ : ∃ i, j = i + 1 := ⟨j - 1, by omega⟩
        rw [kk_s]
        exact this
    · rintro ⟨h1, h2⟩
      refine ⟨h2 (by simp), fun j j1 j2 => ?_, fun q => ?_⟩
      · have := h1 (j + 1) (by omega) (by simp; omega)
        obtain ⟨i, rfl⟩ : ∃ i, j = i + 1 := ⟨j - 1, by omega⟩
        rw [Nat.add_sub_cancel, kk_s, kk_s] at this
        exact this
      · have := h1 1 (by omega) (by simp; omega)
        rw [kk_s, show 1 - 1 = 0 by omega, kk_0] at this
        simpa [ok1] using this
theorem ri_kr (K : List ps_K) : ri K none = true ↔ kr K := by
  rw [ri_k]
  exact ⟨fun h => h.1, fun h => ⟨h, fun _ => rfl⟩⟩
def rl (I : Nat → Int32) (lk : Option Int32) : Prop := match lk with
  | none => I 27 = 0
  | some v => I 27 = 1 ∧ I 28 = v
def rd (f : Nat → Int32) (T F n p : Nat) (lk : Option Int32) (I : Nat → Int32) (Ar : Nat → Nat → Int32) : Prop := I 0 = nI F ∧ I 12 = nI T ∧ I 16 = nI n ∧ I 26 = nI p ∧ rl I lk ∧ Ar 8 = f
/-- what stays: rows below n, and all that reading does not touch -/
def rdf (n : Nat) (I : Nat → Int32) (Ar : Nat → Nat → Int32) (I' : Nat → Int32) (Ar' : Nat → Nat → Int32) : Prop := (∀ t, t ≠ 16 → t ≠ 26 → t ≠ 27 → t ≠ 28 → I' t = I t) ∧ (∀ t, t < 12 ∨ 18 < t → Ar' t = Ar t) ∧ ∀ t j, j < n → Ar' t j = Ar t j
theorem rdf.rf {n : Nat} {I : Nat → Int32} {Ar : Nat → Nat → Int32} : rdf n I Ar I Ar := ⟨fun _ _ _ _ _ => rfl, fun _ _ => rfl, fun _ _ _ => rfl⟩
theorem rdf.tr {n n' : Nat} {I I1 I2 : Nat → Int32} {Ar Ar1 Ar2 : Nat → Nat → Int32} (h : rdf n I Ar I1 Ar1) (h2 : rdf n' I1 Ar1 I2 Ar2) (hn : n ≤ n') : rdf n I Ar I2 Ar2 := ⟨fun t a b c d => (h2.1 t a b c d).trans (h.1 t a b c d), fun t a => (h2.2.1 t a).trans (h.2.1 t a), fun t j a => (h2.2.2 t j (by omega)).trans (h.2.2 t j a)⟩
theorem rdf.le {n n' : Nat} {I I1 : Nat → Int32} {Ar Ar1 : Nat → Nat → Int32} (h : rdf n' I Ar I1 Ar1) (hn : n ≤ n') : rdf n I Ar I1 Ar1 := ⟨h.1, h.2.1, fun t j a => h.2.2 t j (by omega)⟩
theorem rdf.u {n : Nat} {I I1 : Nat → Int32} {Ar Ar1 : Nat → Nat → Int32} (h : rdf n I Ar I1 Ar1) {t j : Nat} (ht : 12 ≤ t ∧ t ≤ 18) (hj : n ≤ j) (v : Int32) : rdf n I Ar I1 (md_u Ar1 t j v) := by
  refine ⟨h.1, fun t' a => ?_, fun t' j' a => ?_⟩
  · rw [← h.2.1 t' a]
    funext i
    unfold md_u
    rw [if_neg (by omega)]
  · rw [← h.2.2 t' j' a]
    unfold md_u
    by_cases q : t' = t
    · rw [if_pos q, if_neg (by omega)]
    · rw [if_neg q]
theorem rdf.p {n : Nat} {I I1 : Nat → Int32} {Ar Ar1 : Nat → Nat → Int32} (h : rdf n I Ar I1 Ar1) {t : Nat} (ht : t = 16 ∨ t = 26 ∨ t = 27 ∨ t = 28) (v : Int32) : rdf n I Ar (upd I1 t v) Ar1 := by
  refine ⟨fun t' a b c d => ?_, h.2⟩
  rw [pk_un (by omega)]
  exact h.1 t' a b c d
theorem mu_e {Ar : Nat → Nat → Int32} {t j : Nat} {v : Int32} : md_u Ar t j v t j = v := by simp [md_u]
theorem mu_n {Ar : Nat → Nat → Int32} {t j t' j' : Nat} {v : Int32} (h : t' ≠ t ∨ j' ≠ j) : md_u Ar t j v t' j' = Ar t' j' := by
  unfold md_u
  by_cases q : t' = t
  · rw [if_pos q, if_neg (by omega)]
  · rw [if_neg q]
theorem mu_r {Ar : Nat → Nat → Int32} {t j t' : Nat} {v : Int32} (h : t' ≠ t) : md_u Ar t j v t' = Ar t' := by
  funext i
  exact mu_n (Or.inl h)
section RRD
variable {N m0 : Nat} {I : Nat → Int32} {Ar : Nat → Nat → Int32} {Aj : Nat → Nat → Int64} {f : Nat → Int32} {T F n p : Nat} {lk : Option Int32}
theorem rd_rises (h : rl I lk) (v : Int32) : f_X8_rises m0 v (N, md_mk m0 I Ar Aj) = some ((if ok1 lk v = true then 1 else 0), (N, md_mk m0 (upd (upd I 27 1) 28 v) Ar Aj)) := by
  have z1 : sw_z 1 = some 1 := rfl
  have z0 : sw_z 0 = some 0 := rfl
  have h20 : ∀ t0 : Int32, sw_z t0 = some t0 → b_X8_rises_20 m0 v t0 (N, md_mk m0 I Ar Aj) = some (t0, (N, md_mk m0 (upd (upd I 27 1) 28 v) Ar Aj)) := by
    intro t0 ht
    unfold b_X8_rises_20
    rw [z1, Option.bind_some, md_p27, Option.bind_some, md_p28, Option.bind_some, ht, Option.bind_some]
  unfold f_X8_rises b_X8_rises_15
  rw [md_g27, Option.bind_some]
  cases lk with
  | none =>
    have h : I 27 = 0 := h
    rw [if_pos h, h20 1 z1]
    rfl
  | some b =>
    obtain ⟨h1, h2⟩ : I 27 = 1 ∧ I 28 = b := h
    rw [h1, if_neg (by decide), md_g28, Option.bind_some, h2]
    by_cases q : v ≤ b
    · rw [if_pos q, h20 0 z0, if_neg]
      simp only [ok1, decide_eq_true_eq]
      exact Int32.not_lt.mpr q
    · rw [if_neg q, h20 1 z1, if_pos]
      simp only [ok1, decide_eq_true_eq]
      exact Int32.not_le.mp q
theorem rd_there (h12 : I 12 = nI T) (h26 : I 26 = nI p) (hT : T ≤ 240) (hp : p ≤ 1000) {q : Nat} (hq : q ≤ 1000) : f_X8_there m0 (nI q) (N, md_mk m0 I Ar Aj) = some (if T < p + q then 0 else 1) := by
  unfold f_X8_there
  rw [md_g26, Option.bind_some, md_g12, Option.bind_some, h12, h26, nI_add]
  by_cases c : T < p + q
  · rw [if_pos (nI_lt c (by omega)), if_pos c]; rfl
  · rw [if_neg (nI_nlt (by omega) (by omega)), if_neg c]; rfl
theorem rd_left (h : rd f T F n p lk I Ar) (hT : T ≤ 240) (hp : p ≤ T) {x : Nat} (hx : x < 300) :
    ((T < p + 3 ∨ f (p + 2) < 1 ∨ ok1 lk (f p) = false) ∧ ∃ I' Ar', f_X8_readLeft m0 (nI x) (N, md_mk m0 I Ar Aj) = some (0, (N, md_mk m0 I' Ar' Aj)) ∧ rdf x I Ar I' Ar') ∨
    (p + 3 ≤ T ∧ ¬ f (p + 2) < 1 ∧ ok1 lk (f p) = true ∧ ∃ I' Ar', f_X8_readLeft m0 (nI x) (N, md_mk m0 I Ar Aj) = some (1, (N, md_mk m0 I' Ar' Aj)) ∧ rdf x I Ar I' Ar' ∧ rd f T F n (p + 3) (some (f p)) I' Ar' ∧ Ar' = md_u (md_u (md_u Ar 16 x (f p)) 17 x (f (p + 1))) 18 x (f (p + 2))) := by
  obtain ⟨h0, h12, h16, h26, hl, h8⟩ := h
  have hth := rd_there (N := N) (m0 := m0) (Ar := Ar) (Aj := Aj) h12 h26 hT (by omega) (q := 3) (by omega)
  have hrun0 : f_X8_readLeft m0 (nI x) (N, md_mk m0 I Ar Aj) = f_X8_readLeft m0 (nI x) (N, md_mk m0 I Ar Aj) := rfl
  by_cases c1 : T < p + 3
  · left
    refine ⟨Or.inl c1, I, Ar, ?_, rdf.rf⟩
    unfold f_X8_readLeft
    rw [md_ob, Option.bind_some, show (3 : Int32) = nI 3 from rfl, hth, Option.bind_some, if_pos c1, if_pos rfl]
  · have hrun : f_X8_readLeft m0 (nI x) (N, md_mk m0 I Ar Aj) = (if f (p + 2) < 1 then b_X8_readLeft_96 (N, md_mk m0 (upd I 26 (nI (p + 3))) (md_u (md_u (md_u Ar 16 x (f p)) 17 x (f (p + 1))) 18 x (f (p + 2))) Aj) else sw_b2 (f_X8_rises m0 (f p) (N, md_mk m0 (upd I 26 (nI (p + 3))) (md_u (md_u (md_u Ar 16 x (f p)) 17 x (f (p + 1))) 18 x (f (p + 2))) Aj)) fun x60 σ61 => if x60 = 0 then b_X8_readLeft_96 σ61 else b_X8_readLeft_97 1 σ61) := by
      unfold f_X8_readLeft
      rw [md_ob, Option.bind_some, show (3 : Int32) = nI 3 from rfl, hth, Option.bind_some, if_neg c1, if_neg (by decide)]
      rw [md_r21, Option.bind_some, md_r11, Option.bind_some, md_g26, Option.bind_some, Option.bind_some, h26, md_l8, sw_ix_nI (by omega) (by omega), Option.bind_some, Option.bind_some, Option.bind_some, h8, md_s16, sw_ix_nI hx (by omega), Option.bind_some, Option.bind_some]
      rw [md_r22, Option.bind_some, md_r11, Option.bind_some, md_g26, Option.bind_some, Option.bind_some, h26, nI_1, md_l8, sw_ix_nI (by omega) (by omega), Option.bind_some, Option.bind_some, Option.bind_some, mu_r (by decide), h8, md_s17, sw_ix_nI hx (by omega), Option.bind_some, Option.bind_some]
      rw [md_r23, Option.bind_some, md_r11, Option.bind_some, md_g26, Option.bind_some, Option.bind_some, h26, show (2 : Int32) = nI 2 from rfl, nI_add, md_l8, sw_ix_nI (by omega) (by omega), Option.bind_some, Option.bind_some, Option.bind_some, mu_r (by decide), mu_r (by decide), h8, md_s18, sw_ix_nI hx (by omega), Option.bind_some, Option.bind_some]
      rw [md_g26, Option.bind_some, h26, nI_add, md_p26, Option.bind_some, md_r23, Option.bind_some, Option.bind_some, md_l18, sw_ix_nI hx (by omega), Option.bind_some, Option.bind_some, mu_e, md_r21, Option.bind_some, Option.bind_some, md_l16, sw_ix_nI hx (by omega), Option.bind_some, Option.bind_some, mu_n (Or.inl (by decide)), mu_n (Or.inl (by decide)), mu_e, md_ob, Option.bind_some]
    have fr1 : rdf x I Ar (upd I 26 (nI (p + 3))) (md_u (md_u (md_u Ar 16 x (f p)) 17 x (f (p + 1))) 18 x (f (p + 2))) := (((rdf.rf.u (by omega) (Nat.le_refl _) _).u (by omega) (Nat.le_refl _) _).u (by omega) (Nat.le_refl _) _).p (by omega) _
    by_cases c2 : f (p + 2) < 1
    · left
      exact ⟨Or.inr (Or.inl c2), _, _, by rw [hrun, if_pos c2]; rfl, fr1⟩
    · have hl2 : rl (upd I 26 (nI (p + 3))) lk := by
        cases lk with
        | none => show upd I 26 _ 27 = 0; rw [pk_un (by decide)]; exact hl
        | some b => show upd I 26 _ 27 = 1 ∧ upd I 26 _ 28 = b; rw [pk_un (by decide), pk_un (by decide)]; exact hl
      rw [rd_rises hl2, if_neg c2] at hrun
      by_cases c3 : ok1 lk (f p) = true
      · right
        rw [if_pos c3, cw_b2, if_neg (by decide)] at hrun
        refine ⟨by omega, c2, c3, _, _, hrun, (fr1.p (by omega) _).p (by omega) _, ⟨?_, ?_, ?_, ?_, ?_, ?_⟩, rfl⟩
        · rw [pk_un (by decide), pk_un (by decide), pk_un (by decide)]; exact h0
        · rw [pk_un (by decide), pk_un (by decide), pk_un (by decide)]; exact h12
        · rw [pk_un (by decide), pk_un (by decide), pk_un (by decide)]; exact h16
        · rw [pk_un (by decide), pk_un (by decide), pk_us]
        · exact ⟨by rw [pk_un (by decide), pk_us], by rw [pk_us]⟩
        · rw [mu_r (by decide), mu_r (by decide), mu_r (by decide)]; exact h8
      · left
        rw [if_neg c3, cw_b2, if_pos rfl] at hrun
        exact ⟨Or.inr (Or.inr (Bool.eq_false_iff.mpr c3)), _, _, hrun, (fr1.p (by omega) _).p (by omega) _⟩
/-- a leaf's keys, one after the other -/
theorem rd_keys0 (h26 : I 26 = nI p) {z : Nat} (hz : z ≤ 5) (hp : p ≤ 240) : ∀ (r j fuel : Nat), j + r = z → r < fuel → b_X8_readLeaf_86 fuel m0 (nI z) 0 (nI j) (N, md_mk m0 I Ar Aj) = some (0, (N, md_mk m0 (upd I 26 (nI (p + 2 * z))) Ar Aj)) := by
  intro r
  induction r with
  | zero =>
    intro j fuel hj hf
    obtain ⟨g, rfl⟩ : ∃ g, fuel = g + 1 := ⟨fuel - 1, by omega⟩
    obtain rfl : j = z := by omega
    show B_X8_readLeaf_86 _ _ _ _ _ _ = _
    unfold B_X8_readLeaf_86
    rw [if_pos (nI_le (Nat.le_refl _) (by omega)), md_g26, Option.bind_some, h26, show (2 : Int32) = nI 2 from rfl, pk_mul, nI_add, md_p26, Option.bind_some]
    rfl
  | succ r ih =>
    intro j fuel hj hf
    obtain ⟨g, rfl⟩ : ∃ g, fuel = g + 1 := ⟨fuel - 1, by omega⟩
    show B_X8_readLeaf_86 _ _ _ _ _ _ = _
    unfold B_X8_readLeaf_86 b_X8_readLeaf_122 b_X8_readLeaf_123
    rw [if_neg (nI_ge (by omega) (by omega)), if_pos rfl, nI_1]
    exact ih (j + 1) g (by omega) (by omega)
theorem ps_lf_s (f : Nat → Int32) (p z : Nat) : ps_lf f p (z + 1) = ps_lf f p z ++ [(f (p + 2 * z), f (p + 2 * z + 1), 0)] := rfl
theorem rd_keys {z : Nat} (hz : z ≤ 5) (hT : T ≤ 240) (hp : p + 2 * z ≤ T) (h8 : Ar 8 = f) : ∀ (r j fuel : Nat) {I : Nat → Int32}, j + r = z → r < fuel → I 26 = nI p → rl I (lst (ps_lf f p j) lk) → ri (ps_lf f p j) lk = true →
    ∃ I', (∀ t, t ≠ 26 → t ≠ 27 → t ≠ 28 → I' t = I t) ∧ ((ri (ps_lf f p z) lk = true ∧ b_X8_readLeaf_86 fuel m0 (nI z) 1 (nI j) (N, md_mk m0 I Ar Aj) = some (1, (N, md_mk m0 I' Ar Aj)) ∧ I' 26 = nI (p + 2 * z) ∧ rl I' (lst (ps_lf f p z) lk)) ∨ (ri (ps_lf f p z) lk = false ∧ b_X8_readLeaf_86 fuel m0 (nI z) 1 (nI j) (N, md_mk m0 I Ar Aj) = some (0, (N, md_mk m0 I' Ar Aj)))) := by
  intro r
  induction r with
  | zero =>
    intro j fuel I hj hf h26 hl hr
    obtain ⟨g, rfl⟩ : ∃ g, fuel = g + 1 := ⟨fuel - 1, by omega⟩
    obtain rfl : j = z := by omega
    refine ⟨upd I 26 (nI (p + 2 * j)), fun t a _ _ => pk_un a, Or.inl ⟨hr, ?_, pk_us, ?_⟩⟩
    · show B_X8_readLeaf_86 _ _ _ _ _ _ = _
      unfold B_X8_readLeaf_86
      rw [if_pos (nI_le (Nat.le_refl _) (by omega)), md_g26, Option.bind_some, h26, show (2 : Int32) = nI 2 from rfl, pk_mul, nI_add, md_p26, Option.bind_some]
      rfl
    · generalize lst (ps_lf f p j) lk = lk2 at hl
      cases lk2 with
      | none => show upd I 26 _ 27 = 0; rw [pk_un (by decide)]; exact hl
      | some b => show upd I 26 _ 27 = 1 ∧ upd I 26 _ 28 = b; rw [pk_un (by decide), pk_un (by decide)]; exact hl
  | succ r ih =>
    intro j fuel I hj hf h26 hl hr
    obtain ⟨g, rfl⟩ : ∃ g, fuel = g + 1 := ⟨fuel - 1, by omega⟩
    have hrun : b_X8_readLeaf_86 (g + 1) m0 (nI z) 1 (nI j) (N, md_mk m0 I Ar Aj) = (if ok1 (lst (ps_lf f p j) lk) (f (p + 2 * j)) = true then b_X8_readLeaf_86 g m0 (nI z) 1 (nI (j + 1)) (N, md_mk m0 (upd (upd I 27 1) 28 (f (p + 2 * j))) Ar Aj) else b_X8_readLeaf_86 g m0 (nI z) 0 (nI (j + 1)) (N, md_mk m0 (upd (upd I 27 1) 28 (f (p + 2 * j))) Ar Aj)) := by
      show B_X8_readLeaf_86 _ _ _ _ _ _ = _
      unfold B_X8_readLeaf_86 b_X8_readLeaf_122 b_X8_readLeaf_123
      rw [if_neg (nI_ge (by omega) (by omega)), if_neg (by decide), md_r11, Option.bind_some, md_g26, Option.bind_some, Option.bind_some, h26, show (2 : Int32) = nI 2 from rfl, pk_mul, nI_add, md_l8, sw_ix_nI (by omega) (by omega), Option.bind_some, Option.bind_some, h8, md_ob, Option.bind_some, rd_rises hl, cw_b2, nI_1]
      by_cases q : ok1 (lst (ps_lf f p j) lk) (f (p + 2 * j)) = true
      · rw [if_pos q, if_neg (by decide), if_pos q]
      · rw [if_neg q, if_pos rfl, if_neg q]
    have hri : ri (ps_lf f p (j + 1)) lk = ok1 (lst (ps_lf f p j) lk) (f (p + 2 * j)) := by
      rw [ps_lf_s, ri_app, hr]
      simp [ri]
    have hls : lst (ps_lf f p (j + 1)) lk = some (f (p + 2 * j)) := by
      rw [ps_lf_s, lst_app]; rfl
    by_cases q : ok1 (lst (ps_lf f p j) lk) (f (p + 2 * j)) = true
    · rw [if_pos q] at hrun
      obtain ⟨I', k1, k2⟩ := ih (j + 1) g (I := upd (upd I 27 1) 28 (f (p + 2 * j))) (by omega) (by omega) (by rw [pk_un (by decide), pk_un (by decide)]; exact h26) (by rw [hls]; exact ⟨by rw [pk_un (by decide), pk_us], by rw [pk_us]⟩) (by rw [hri]; exact q)
      refine ⟨I', fun t a b c => ?_, ?_⟩
      · rw [k1 t a b c, pk_un c, pk_un b]
      · rw [hrun]; exact k2
    · rw [if_neg q, rd_keys0 (p := p) (by rw [pk_un (by decide), pk_un (by decide)]; exact h26) hz (by omega) r (j + 1) g (by omega) (by omega)] at hrun
      refine ⟨_, fun t a b c => ?_, Or.inr ⟨?_, hrun⟩⟩
      · rw [pk_un a, pk_un c, pk_un b]
      · have hpre : ∀ m, ri (ps_lf f p (j + 1 + m)) lk = false := by
          intro m
          induction m with
          | zero => rw [Nat.add_zero, hri]; exact Bool.eq_false_iff.mpr q
          | succ m ihm => rw [show j + 1 + (m + 1) = (j + 1 + m) + 1 by omega, ps_lf_s, ri_app, ihm]; rfl
        have := hpre r
        rw [show j + 1 + r = z by omega] at this
        exact this
/-- depth of a node -/
def dp (P : Nat → Int32) : Nat → Nat → Prop
  | 0, x => x = 0
  | e + 1, x => 0 < x ∧ x < 300 ∧ ∃ y, P x = nI y ∧ y < x ∧ dp P e y
theorem dp_cg {P P' : Nat → Int32} : ∀ (e x : Nat), (∀ j, j ≤ x → P' j = P j) → dp P e x → dp P' e x := by
  intro e
  induction e with
  | zero => intro x _ h; exact h
  | succ e ih =>
    intro x hP h
    obtain ⟨h1, h2, y, h3, h4, h5⟩ := h
    exact ⟨h1, h2, y, by rw [hP x (Nat.le_refl _)]; exact h3, h4, ih y (fun j hj => hP j (by omega)) h5⟩
theorem rd_depth : ∀ (e x v fuel : Nat), dp (Ar 13) e x → e < fuel → b_X8_depth_4 fuel m0 (nI v) (nI x) (N, md_mk m0 I Ar Aj) = some (nI (v + e)) := by
  intro e
  induction e with
  | zero =>
    intro x v fuel h hf
    obtain ⟨g, rfl⟩ : ∃ g, fuel = g + 1 := ⟨fuel - 1, by omega⟩
    have h : x = 0 := h
    subst h
    show B_X8_depth_4 _ _ _ _ _ = _
    unfold B_X8_depth_4
    rw [if_pos (by decide)]; rfl
  | succ e ih =>
    intro x v fuel h hf
    obtain ⟨g, rfl⟩ : ∃ g, fuel = g + 1 := ⟨fuel - 1, by omega⟩
    obtain ⟨h1, h2, y, h3, h4, h5⟩ := h
    show B_X8_depth_4 _ _ _ _ _ = _
    unfold B_X8_depth_4
    rw [if_neg (nI_nle h1 (by omega)), md_r18, Option.bind_some, Option.bind_some, md_l13, sw_ix_nI h2 (by omega), Option.bind_some, Option.bind_some, h3, nI_1, ih y (v + 1) g h5 (by omega)]
    rw [show v + 1 + e = v + (e + 1) by omega]
/-- children that are there -/
theorem rd_have_loop {G : Nat → ps_N} {m L : Nat} (hm : n + 1 + L = m) (h16 : I 16 = nI m) (hm3 : m ≤ 300) (hG : ∀ j, n < j → j < m → Ar 13 j = nI (np (G j)) ∧ np (G j) < 300) : ∀ (r l fuel : Nat), l + r = L → r < fuel → b_X8_have_6 fuel m0 (nI n) (nI (cnp G n (n + 1) l)) (nI (n + 1 + l)) (N, md_mk m0 I Ar Aj) = some (nI (cnp G n (n + 1) L)) := by
  intro r
  induction r with
  | zero =>
    intro l fuel hl hf
    obtain ⟨g, rfl⟩ : ∃ g, fuel = g + 1 := ⟨fuel - 1, by omega⟩
    obtain rfl : l = L := by omega
    show B_X8_have_6 _ _ _ _ _ _ = _
    unfold B_X8_have_6
    rw [md_g16, Option.bind_some, h16, if_pos (nI_le (by omega) (by omega))]
  | succ r ih =>
    intro l fuel hl hf
    obtain ⟨g, rfl⟩ : ∃ g, fuel = g + 1 := ⟨fuel - 1, by omega⟩
    obtain ⟨g1, g2⟩ := hG (n + 1 + l) (by omega) (by omega)
    have := ih (l + 1) g (by omega) (by omega)
    show B_X8_have_6 _ _ _ _ _ _ = _
    unfold B_X8_have_6 b_X8_have_31
    rw [md_g16, Option.bind_some, h16, if_neg (nI_ge (by omega) (by omega)), md_r18, Option.bind_some, Option.bind_some, md_l13, sw_ix_nI (by omega) (by omega), Option.bind_some, Option.bind_some, g1]
    have e1 : cnp G n (n + 1) (l + 1) = cnp G n (n + 1) l + if np (G (n + 1 + l)) = n then 1 else 0 := rfl
    rw [e1] at this
    by_cases q : np (G (n + 1 + l)) = n
    · rw [if_pos q] at this
      rw [if_pos (by rw [q]), nI_1, nI_1]
      exact this
    · rw [if_neg q] at this
      rw [if_neg (fun e => q ((nI_eq (by omega) (by omega)).mp e)), nI_1]
      exact this
theorem rd_have {G : Nat → ps_N} {L : Nat} (h16 : I 16 = nI (n + 1 + L)) (hm3 : n + 1 + L ≤ 300) (hG : ∀ j, n < j → j < n + 1 + L → Ar 13 j = nI (np (G j)) ∧ np (G j) < 300) : f_X8_have m0 (nI n) (N, md_mk m0 I Ar Aj) = some (nI (cnp G n (n + 1) L)) := by
  have := rd_have_loop (N := N) (m0 := m0) (Aj := Aj) (I := I) (Ar := Ar) rfl h16 hm3 hG L 0 1000 (by omega) (by omega)
  unfold f_X8_have
  rw [nI_1]
  exact this
/-- who waits: the steps -/
theorem rw_neg (g : Nat) : b_X8_waiting_7 (g + 1) m0 (-1) (N, md_mk m0 I Ar Aj) = some (-1) := by
  show B_X8_waiting_7 _ _ _ _ = _
  unfold B_X8_waiting_7
  rw [if_pos (by decide)]; rfl
theorem rw_35 {x y : Nat} (g : Nat) (h0 : 0 < x) (hx : x < 300) (hy : Ar 13 x = nI y) : b_X8_waiting_35 (b_X8_waiting_7 g) m0 (nI x) (N, md_mk m0 I Ar Aj) = b_X8_waiting_7 g m0 (nI y) (N, md_mk m0 I Ar Aj) := by
  unfold b_X8_waiting_35 b_X8_waiting_49
  rw [if_neg (fun e => by have := (nI_eq (b := 0) (by omega) (by omega)).mp e; omega), md_r18, Option.bind_some, Option.bind_some, md_l13, sw_ix_nI hx (by omega), Option.bind_some, Option.bind_some, hy]
theorem rw_350 (g : Nat) : b_X8_waiting_35 (b_X8_waiting_7 g) m0 (nI 0) (N, md_mk m0 I Ar Aj) = b_X8_waiting_7 g m0 (-1) (N, md_mk m0 I Ar Aj) := by
  unfold b_X8_waiting_35 b_X8_waiting_49
  rw [if_pos (by decide)]
theorem rw_other {x : Nat} (g : Nat) (hx : x < 300) (h : Ar 12 x ≠ 2) : b_X8_waiting_7 (g + 1) m0 (nI x) (N, md_mk m0 I Ar Aj) = b_X8_waiting_35 (b_X8_waiting_7 g) m0 (nI x) (N, md_mk m0 I Ar Aj) := by
  show B_X8_waiting_7 _ _ _ _ = _
  unfold B_X8_waiting_7
  rw [if_neg (Int32.not_lt.mpr (nI_pos' (by omega))), md_r17, Option.bind_some, Option.bind_some, md_l12, sw_ix_nI hx (by omega), Option.bind_some, Option.bind_some, if_neg h]
theorem rw_inner {x hv z : Nat} (g : Nat) (hx : x < 300) (h : Ar 12 x = 2) (hh : f_X8_have m0 (nI x) (N, md_mk m0 I Ar Aj) = some (nI hv)) (hz : Ar 14 x = nI z) (h1 : hv < 1000) (h2 : z < 1000) : b_X8_waiting_7 (g + 1) m0 (nI x) (N, md_mk m0 I Ar Aj) = if hv = z then b_X8_waiting_35 (b_X8_waiting_7 g) m0 (nI x) (N, md_mk m0 I Ar Aj) else some (nI x) := by
  show B_X8_waiting_7 _ _ _ _ = _
  unfold B_X8_waiting_7
  rw [if_neg (Int32.not_lt.mpr (nI_pos' (by omega))), md_r17, Option.bind_some, Option.bind_some, md_l12, sw_ix_nI hx (by omega), Option.bind_some, Option.bind_some, if_pos h, md_ob, Option.bind_some, hh, Option.bind_some, md_r19, Option.bind_some, Option.bind_some, md_l14, sw_ix_nI hx (by omega), Option.bind_some, Option.bind_some, hz]
  by_cases q : hv = z
  · rw [if_pos (by rw [q]), if_pos q]
  · rw [if_neg (fun e => q ((nI_eq (by omega) (by omega)).mp e)), if_neg q]; rfl
end RRD
