/-! THE REFERENCE'S SMALL METHODS -/
theorem md_ix (l k : Nat) : (64 * nI l + nI k : Int32) = nI (64 * l + k) := by
  show nI 64 * nI l + nI k = _
  rw [pk_mul, nI_add]
def pv_upF (f : Nat → Int32) (key : Int32) : Nat → Nat → Nat
  | 0, i => i
  | k + 1, i => if key < f i then i else pv_upF f key k (i + 1)
def pv_hoF (f : Nat → Nat) : Nat → Nat → Nat → Nat
  | 0, k, _ => k
  | c + 1, k, r => if r < f k then k else pv_hoF f c (k + 1) (r - f k)
section M1
variable {n m0 : Nat} {I : Nat → Int32} {Ar : Nat → Nat → Int32} {Aj : Nat → Nat → Int64}
theorem md_upTo_loop {c : Nat} (hc : I 2 = nI c) (hc2 : c ≤ 61) (key : Int32) : ∀ (k i fuel : Nat), i + k = c → k < fuel → b_X8_upTo_2 fuel m0 key (nI i) (n, md_mk m0 I Ar Aj) = some (nI (pv_upF (Ar 1) key k i)) := by
  intro k
  induction k with
  | zero =>
    intro i fuel hi hf
    obtain ⟨f, rfl⟩ : ∃ f, fuel = f + 1 := ⟨fuel - 1, by omega⟩
    show B_X8_upTo_2 (b_X8_upTo_2 f) m0 key (nI i) _ = _
    unfold B_X8_upTo_2
    rw [md_g2, Option.bind_some, hc, if_pos (nI_le (by omega) (by omega))]
    rfl
  | succ k ih =>
    intro i fuel hi hf
    obtain ⟨f, rfl⟩ : ∃ f, fuel = f + 1 := ⟨fuel - 1, by omega⟩
    show B_X8_upTo_2 (b_X8_upTo_2 f) m0 key (nI i) _ = _
    unfold B_X8_upTo_2
    rw [md_g2, Option.bind_some, hc, if_neg (nI_ge (by omega) (by omega)), md_r3, Option.bind_some, Option.bind_some, md_l1, sw_ix_nI (by omega) (by omega), Option.bind_some, Option.bind_some]
    simp only [pv_upF]
    by_cases h : key < Ar 1 i
    · rw [if_pos h, if_pos h]; rfl
    · rw [if_neg h, if_neg h, nI_1]
      exact ih (i + 1) f (by omega) (by omega)
theorem md_upTo {c : Nat} (hc : I 2 = nI c) (hc2 : c ≤ 61) (key : Int32) : f_X8_upTo m0 key (n, md_mk m0 I Ar Aj) = some (nI (pv_upF (Ar 1) key c 0)) :=
  md_upTo_loop hc hc2 key c 0 1000 (by omega) (by omega)
theorem pv_upF_le (f : Nat → Int32) (key : Int32) : ∀ (k i : Nat), i ≤ pv_upF f key k i ∧ pv_upF f key k i ≤ i + k ∧ (∀ j, i ≤ j → j < pv_upF f key k i → ¬ key < f j) ∧ (pv_upF f key k i < i + k → key < f (pv_upF f key k i)) := by
  intro k
  induction k with
  | zero => intro i; simp only [pv_upF]; exact ⟨Nat.le_refl _, Nat.le_refl _, fun j h1 h2 => by omega, fun h => by omega⟩
  | succ k ih =>
    intro i
    simp only [pv_upF]
    by_cases hc : key < f i
    · rw [if_pos hc]; exact ⟨Nat.le_refl _, by omega, fun j h1 h2 => by omega, fun _ => hc⟩
    · rw [if_neg hc]
      obtain ⟨h1, h2, h3, h4⟩ := ih (i + 1)
      refine ⟨by omega, by omega, fun j q1 q2 => ?_, fun q => h4 (by omega)⟩
      by_cases hj : j = i
      · subst hj; exact hc
      · exact h3 j (by omega) q2
/-- where a key is: its place, or none -/
def pv_fd (f : Nat → Int32) (c : Nat) (key : Int32) : Option Nat := if 0 < pv_upF f key c 0 ∧ f (pv_upF f key c 0 - 1) = key then some (pv_upF f key c 0 - 1) else none
def pv_oi : Option Nat → Int32
  | some k => nI k
  | none => -1
theorem md_find {c : Nat} (hc : I 2 = nI c) (hc2 : c ≤ 61) (key : Int32) : f_X8_find m0 key (n, md_mk m0 I Ar Aj) = some (pv_oi (pv_fd (Ar 1) c key)) := by
  unfold f_X8_find pv_fd
  rw [md_ob, Option.bind_some, md_upTo hc hc2, Option.bind_some]
  obtain ⟨-, h2, -, -⟩ := pv_upF_le (Ar 1) key c 0
  generalize pv_upF (Ar 1) key c 0 = u at h2 ⊢
  by_cases hu : u = 0
  · subst hu
    rw [if_pos (by decide), if_neg (fun h => by omega)]
    rfl
  · obtain ⟨u', rfl⟩ : ∃ u', u = u' + 1 := ⟨u - 1, by omega⟩
    rw [if_neg (nI_nle (by omega) (by omega)), md_r3, Option.bind_some, Option.bind_some, nI_pred, md_l1, sw_ix_nI (by omega) (by omega), Option.bind_some, Option.bind_some]
    simp only [Nat.add_sub_cancel]
    by_cases h : Ar 1 u' = key
    · rw [if_pos h, if_pos ⟨by omega, h⟩]; rfl
    · rw [if_neg h, if_neg (fun q => h q.2)]; rfl
/-- a level: how many nodes, and each one's size -/
def md_lv (Ar : Nat → Nat → Int32) (l c : Nat) (z : Nat → Nat) : Prop := l < 8 ∧ c < 64 ∧ Ar 4 l = nI c ∧ ∀ k, k < c → Ar 3 (64 * l + k) = nI (z k) ∧ z k < 1000
theorem md_hold_loop {l c : Nat} {z : Nat → Nat} (h : md_lv Ar l c z) : ∀ (q k r fuel : Nat), k + 1 + q = c → r < 100000 → q < fuel → b_X8_holder_5 fuel m0 (nI l) (nI k) (nI r) (n, md_mk m0 I Ar Aj) = some (nI (pv_hoF z q k r)) := by
  obtain ⟨h1, h2, h3, h4⟩ := h
  intro q
  induction q with
  | zero =>
    intro k r fuel hk hr hf
    obtain ⟨f, rfl⟩ : ∃ f, fuel = f + 1 := ⟨fuel - 1, by omega⟩
    show B_X8_holder_5 (b_X8_holder_5 f) m0 (nI l) (nI k) (nI r) _ = _
    unfold B_X8_holder_5
    obtain ⟨c', rfl⟩ : ∃ c', c = c' + 1 := ⟨c - 1, by omega⟩
    rw [md_r7, Option.bind_some, Option.bind_some, md_l4, sw_ix_nI (by omega) (by omega), Option.bind_some, Option.bind_some, h3, nI_pred, if_pos (nI_le (by omega) (by omega))]
    rfl
  | succ q ih =>
    intro k r fuel hk hr hf
    obtain ⟨f, rfl⟩ : ∃ f, fuel = f + 1 := ⟨fuel - 1, by omega⟩
    show B_X8_holder_5 (b_X8_holder_5 f) m0 (nI l) (nI k) (nI r) _ = _
    unfold B_X8_holder_5
    obtain ⟨c', rfl⟩ : ∃ c', c = c' + 1 := ⟨c - 1, by omega⟩
    obtain ⟨g1, g2⟩ := h4 k (by omega)
    rw [md_r7, Option.bind_some, Option.bind_some, md_l4, sw_ix_nI (by omega) (by omega), Option.bind_some, Option.bind_some, h3, nI_pred, if_neg (nI_ge (by omega) (by omega)), md_r6, Option.bind_some, Option.bind_some, md_ix, md_l3, sw_ix_nI (by omega) (by omega), Option.bind_some, Option.bind_some, g1]
    simp only [pv_hoF]
    by_cases hh : r < z k
    · rw [if_pos (nI_lt hh (by omega)), if_pos hh]; rfl
    · rw [if_neg (nI_nlt (by omega) (by omega)), if_neg hh, Option.bind_some, Option.bind_some, md_l3, sw_ix_nI (by omega) (by omega), Option.bind_some, Option.bind_some, g1, nI_1, pk_sub (by omega)]
      exact ih (k + 1) (r - z k) f (by omega) (by omega) (by omega)
theorem md_holder {l c : Nat} {z : Nat → Nat} (h : md_lv Ar l c z) (hc : 0 < c) {r : Nat} (hr : r < 100000) : f_X8_holder m0 (nI l) (nI r) (n, md_mk m0 I Ar Aj) = some (nI (pv_hoF z (c - 1) 0 r)) :=
  md_hold_loop h (c - 1) 0 r 1000 (by omega) hr (by have := h.2.1; omega)
def pv_sum (z : Nat → Nat) : Nat → Nat
  | 0 => 0
  | k + 1 => pv_sum z k + z k
theorem md_place_loop {l c : Nat} {z : Nat → Nat} (h : md_lv Ar (l + 1) c z) {p ix : Nat} (hp : p ≤ c) (hix : pv_sum z p ≤ ix) (hix2 : ix < 100000) : ∀ (q k fuel : Nat), k + q = p → q < fuel → b_X8_placeIn_6 fuel m0 (nI l) (nI p) (nI (ix - pv_sum z k)) (nI k) (n, md_mk m0 I Ar Aj) = some (nI (ix - pv_sum z p)) := by
  obtain ⟨h1, h2, h3, h4⟩ := h
  have mono : ∀ a b, pv_sum z a ≤ pv_sum z (a + b) := by
    intro a b
    induction b with
    | zero => exact Nat.le_refl _
    | succ b ih => exact Nat.le_trans ih (Nat.le_add_right _ _)
  intro q
  induction q with
  | zero =>
    intro k fuel hk hf
    obtain ⟨f, rfl⟩ : ∃ f, fuel = f + 1 := ⟨fuel - 1, by omega⟩
    show B_X8_placeIn_6 (b_X8_placeIn_6 f) m0 (nI l) (nI p) _ (nI k) _ = _
    unfold B_X8_placeIn_6
    obtain rfl : k = p := by omega
    rw [if_pos (nI_le (by omega) (by omega))]
  | succ q ih =>
    intro k fuel hk hf
    obtain ⟨f, rfl⟩ : ∃ f, fuel = f + 1 := ⟨fuel - 1, by omega⟩
    show B_X8_placeIn_6 (b_X8_placeIn_6 f) m0 (nI l) (nI p) _ (nI k) _ = _
    unfold B_X8_placeIn_6
    obtain ⟨g1, g2⟩ := h4 k (by omega)
    have hm := mono (k + 1) q
    rw [show k + 1 + q = p by omega] at hm
    have hs : pv_sum z (k + 1) = pv_sum z k + z k := rfl
    rw [if_neg (nI_ge (by omega) (by omega)), md_r6, Option.bind_some, Option.bind_some, nI_1, md_ix, md_l3, sw_ix_nI (by omega) (by omega), Option.bind_some, Option.bind_some, g1, pk_sub (by omega), nI_1, show ix - pv_sum z k - z k = ix - pv_sum z (k + 1) by omega]
    exact ih (k + 1) f (by omega) (by omega)
theorem md_placeIn {l c : Nat} {z : Nat → Nat} (h : md_lv Ar (l + 1) c z) {p ix : Nat} (hp : p ≤ c) (hix : pv_sum z p ≤ ix) (hix2 : ix < 100000) : f_X8_placeIn m0 (nI l) (nI ix) (nI p) (n, md_mk m0 I Ar Aj) = some (nI (ix - pv_sum z p)) := by
  have := md_place_loop (n := n) (m0 := m0) (I := I) (Aj := Aj) h hp hix hix2 p 0 1000 (by omega) (by have := h.2.1; omega)
  exact this
/-- a size is put in at idx (there were c), taken out at idx -/
def pv_insF (f : Nat → Int32) (b idx c : Nat) (x : Int32) : Nat → Int32 := fun p => if p = b + idx then x else if b + idx < p ∧ p ≤ b + c then f (p - 1) else f p
def pv_delF (f : Nat → Int32) (b idx c : Nat) : Nat → Int32 := fun p => if b + idx ≤ p ∧ p + 1 < b + c then f (p + 1) else f p
theorem md_ins_loop {l c idx : Nat} {x : Int32} (hl : l < 8) (hc : c < 63) : ∀ (q k fuel : Nat) {Ar : Nat → Nat → Int32}, idx + q = k → k ≤ c → Ar 4 l = nI c → q < fuel → b_X8_insertNode_8 fuel m0 (nI l) (nI idx) x (nI k) (n, md_mk m0 I Ar Aj) = some (n, md_mk m0 I (md_u (fun t => if t = 3 then pv_insF (Ar 3) (64 * l) idx k x else Ar t) 4 l (nI (c + 1))) Aj) := by
  intro q
  induction q with
  | zero =>
    intro k fuel Ar hk hkc h4 hf
    obtain ⟨f, rfl⟩ : ∃ f, fuel = f + 1 := ⟨fuel - 1, by omega⟩
    show B_X8_insertNode_8 (b_X8_insertNode_8 f) m0 (nI l) (nI idx) x (nI k) _ = _
    unfold B_X8_insertNode_8
    rw [if_pos (nI_le (by omega) (by omega)), md_r6, Option.bind_some, Option.bind_some, md_ix, md_s3, sw_ix_nI (by omega) (by omega), Option.bind_some, Option.bind_some, md_r7, Option.bind_some, Option.bind_some, md_l4, sw_ix_nI (by omega) (by omega), Option.bind_some, Option.bind_some, md_s4, sw_ix_nI (by omega) (by omega), Option.bind_some, Option.bind_some]
    have e1 : md_u Ar 3 (64 * l + idx) x 4 l = nI c := by simp [md_u, h4]
    rw [e1, nI_1]
    congr 3
    funext t p
    by_cases ht : t = 4
    · subst ht; simp [md_u]
    · by_cases ht3 : t = 3
      · subst ht3
        change (if p = 64 * l + idx then x else Ar 3 p) = (if p = 64 * l + idx then x else if 64 * l + idx < p ∧ p ≤ 64 * l + k then Ar 3 (p - 1) else Ar 3 p)
        by_cases hp : p = 64 * l + idx
        · rw [if_pos hp, if_pos hp]
        · rw [if_neg hp, if_neg hp, if_neg (by omega)]
      · simp [md_u, ht, ht3]
  | succ q ih =>
    intro k fuel Ar hk hkc h4 hf
    obtain ⟨f, rfl⟩ : ∃ f, fuel = f + 1 := ⟨fuel - 1, by omega⟩
    show B_X8_insertNode_8 (b_X8_insertNode_8 f) m0 (nI l) (nI idx) x (nI k) _ = _
    unfold B_X8_insertNode_8
    obtain ⟨k', rfl⟩ : ∃ k', k = k' + 1 := ⟨k - 1, by omega⟩
    rw [if_neg (nI_ge (by omega) (by omega)), md_r6, Option.bind_some, Option.bind_some, Option.bind_some, md_ix, show 64 * l + (k' + 1) = 64 * l + k' + 1 by omega, nI_pred, md_l3, sw_ix_nI (by omega) (by omega), Option.bind_some, Option.bind_some, Option.bind_some, md_s3, sw_ix_nI (by omega) (by omega), Option.bind_some, Option.bind_some, pk_m1]
    rw [ih k' f (Ar := md_u Ar 3 (64 * l + k' + 1) (Ar 3 (64 * l + k'))) (by omega) (by omega) (by simp [md_u, h4]) (by omega)]
    congr 3
    funext t p
    by_cases ht : t = 4
    · subst ht; simp [md_u]
    · by_cases ht3 : t = 3
      · subst ht3
        change (if p = 64 * l + idx then x else if 64 * l + idx < p ∧ p ≤ 64 * l + k' then (if p - 1 = 64 * l + k' + 1 then Ar 3 (64 * l + k') else Ar 3 (p - 1)) else (if p = 64 * l + k' + 1 then Ar 3 (64 * l + k') else Ar 3 p)) = (if p = 64 * l + idx then x else if 64 * l + idx < p ∧ p ≤ 64 * l + (k' + 1) then Ar 3 (p - 1) else Ar 3 p)
        by_cases hp : p = 64 * l + idx
        · rw [if_pos hp, if_pos hp]
        · rw [if_neg hp, if_neg hp]
          by_cases hp2 : 64 * l + idx < p ∧ p ≤ 64 * l + k'
          · rw [if_pos hp2, if_neg (by omega), if_pos (by omega)]
          · rw [if_neg hp2]
            by_cases hp3 : p = 64 * l + k' + 1
            · subst hp3
              rw [if_pos rfl, if_pos (by omega)]
              rfl
            · rw [if_neg hp3, if_neg (by omega)]
      · simp [md_u, ht, ht3]
theorem md_insertNode {l c idx : Nat} {x : Int32} (hl : l < 8) (hc : c < 63) (hi : idx ≤ c) (h4 : Ar 4 l = nI c) : f_X8_insertNode m0 (nI l) (nI idx) x (n, md_mk m0 I Ar Aj) = some (n, md_mk m0 I (md_u (fun t => if t = 3 then pv_insF (Ar 3) (64 * l) idx c x else Ar t) 4 l (nI (c + 1))) Aj) := by
  unfold f_X8_insertNode
  rw [md_r7, Option.bind_some, Option.bind_some, md_l4, sw_ix_nI (by omega) (by omega), Option.bind_some, Option.bind_some, h4]
  exact md_ins_loop hl hc (c - idx) c 1000 (by omega) (Nat.le_refl _) h4 (by omega)
theorem md_del_loop {l c : Nat} (hl : l < 8) (hc : c < 63) : ∀ (q k fuel : Nat) {Ar : Nat → Nat → Int32}, k + q = c → Ar 4 l = nI c → q < fuel → b_X8_removeNode_12 fuel m0 (nI l) (nI k) (n, md_mk m0 I Ar Aj) = some (n, md_mk m0 I (fun t => if t = 3 then pv_delF (Ar 3) (64 * l) k (c + 1) else Ar t) Aj) := by
  intro q
  induction q with
  | zero =>
    intro k fuel Ar hk h4 hf
    obtain ⟨f, rfl⟩ : ∃ f, fuel = f + 1 := ⟨fuel - 1, by omega⟩
    show B_X8_removeNode_12 (b_X8_removeNode_12 f) m0 (nI l) (nI k) _ = _
    unfold B_X8_removeNode_12
    rw [md_r7, Option.bind_some, Option.bind_some, md_l4, sw_ix_nI (by omega) (by omega), Option.bind_some, Option.bind_some, h4, if_pos (nI_le (by omega) (by omega))]
    congr 3
    funext t p
    by_cases ht3 : t = 3
    · subst ht3
      change Ar 3 p = (if 64 * l + k ≤ p ∧ p + 1 < 64 * l + (c + 1) then Ar 3 (p + 1) else Ar 3 p)
      rw [if_neg (by omega)]
    · simp [ht3]
  | succ q ih =>
    intro k fuel Ar hk h4 hf
    obtain ⟨f, rfl⟩ : ∃ f, fuel = f + 1 := ⟨fuel - 1, by omega⟩
    show B_X8_removeNode_12 (b_X8_removeNode_12 f) m0 (nI l) (nI k) _ = _
    unfold B_X8_removeNode_12
    rw [md_r7, Option.bind_some, Option.bind_some, md_l4, sw_ix_nI (by omega) (by omega), Option.bind_some, Option.bind_some, h4, if_neg (nI_ge (by omega) (by omega)), md_r6, Option.bind_some, Option.bind_some, Option.bind_some, md_ix, nI_1, md_l3, sw_ix_nI (by omega) (by omega), Option.bind_some, Option.bind_some, Option.bind_some, md_s3, sw_ix_nI (by omega) (by omega), Option.bind_some, Option.bind_some, nI_1]
    rw [ih (k + 1) f (Ar := md_u Ar 3 (64 * l + k) (Ar 3 (64 * l + k + 1))) (by omega) (by simp [md_u, h4]) (by omega)]
    congr 3
    funext t p
    by_cases ht3 : t = 3
    · subst ht3
      change (if 64 * l + (k + 1) ≤ p ∧ p + 1 < 64 * l + (c + 1) then (if p + 1 = 64 * l + k then Ar 3 (64 * l + k + 1) else Ar 3 (p + 1)) else (if p = 64 * l + k then Ar 3 (64 * l + k + 1) else Ar 3 p)) = (if 64 * l + k ≤ p ∧ p + 1 < 64 * l + (c + 1) then Ar 3 (p + 1) else Ar 3 p)
      by_cases hp : 64 * l + (k + 1) ≤ p ∧ p + 1 < 64 * l + (c + 1)
      · rw [if_pos hp, if_neg (by omega), if_pos (by omega)]
      · rw [if_neg hp]
        by_cases hp3 : p = 64 * l + k
        · subst hp3
          rw [if_pos rfl, if_pos (by omega)]
        · rw [if_neg hp3, if_neg (by omega)]
    · simp [ht3, md_u]
theorem md_removeNode {l c idx : Nat} (hl : l < 8) (hc : c < 63) (hi : idx ≤ c) (h4 : Ar 4 l = nI (c + 1)) : f_X8_removeNode m0 (nI l) (nI idx) (n, md_mk m0 I Ar Aj) = some (n, md_mk m0 I (fun t => if t = 3 then pv_delF (Ar 3) (64 * l) idx (c + 1) else if t = 4 then upd (Ar 4) l (nI c) else Ar t) Aj) := by
  unfold f_X8_removeNode
  rw [md_r7, Option.bind_some, Option.bind_some, md_l4, sw_ix_nI (by omega) (by omega), Option.bind_some, Option.bind_some, h4, nI_pred, md_s4, sw_ix_nI (by omega) (by omega), Option.bind_some, Option.bind_some]
  rw [md_del_loop hl hc (c - idx) idx 1000 (Ar := md_u Ar 4 l (nI c)) (by omega) (by simp [md_u]) (by omega)]
  congr 3
  funext t p
  by_cases ht3 : t = 3
  · subst ht3
    rfl
  · by_cases ht4 : t = 4
    · subst ht4
      simp [md_u, upd]
    · simp [ht3, ht4, md_u]
end M1
