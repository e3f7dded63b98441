/-! READING A PROOF: keys (key, number, left out), nodes ((kind, parent, place, size), (first key, end), labels), spans of children that are shown -/
abbrev ps_K : Type := Int32 × Int32 × Int32
abbrev ps_N : Type := (Nat × Nat × Nat × Nat) × (Nat × Nat) × (Int32 × Int32 × Int32)
abbrev ps_R : Type := Nat × List ps_K × List ps_N × List (Nat × Nat) × (Int32 × Int32 × Int32)
abbrev ps_S : Type := Nat × List ps_K × List ps_N × List (Nat × Nat) × (Int32 × Int32 × Int32)
def ps_z (F lo : Nat) (x : Int32) : Option Nat := if x < nI lo then none else if nI F < x then none else some x.toNatClampNeg
def ps_lf (f : Nat → Int32) (p : Nat) : Nat → List ps_K
  | 0 => []
  | z + 1 => ps_lf f p z ++ [(f (p + 2 * z), f (p + 2 * z + 1), 0)]
def ps_ll (f : Nat → Int32) (p z : Nat) : Int32 × Int32 × Int32 := (if z = 0 then 0 else f p, pv_it (fun j h => pv_mix (pv_mix h (f (p + 2 * j))) (f (p + 2 * j + 1))) z (pv_mix (pv_mix 1 1) (nI z)), nI z)
/-- one child more: (first, digest, sum) run along -/
def ps_st (f : Nat → Int32) (k i : Nat) (s : ps_S) (r : ps_R) : ps_S := (r.1, s.2.1 ++ r.2.1, s.2.2.1 ++ r.2.2.1, (s.2.2.2.1 ++ r.2.2.2.1) ++ (if f s.1 = 0 then [] else [(k + s.2.1.length, k + s.2.1.length + r.2.1.length)]), (if i = 0 then r.2.2.2.2.1 else s.2.2.2.2.1, pv_lm s.2.2.2.2.2.1 r.2.2.2.2, s.2.2.2.2.2.2 + r.2.2.2.2.2.2))
def ps_c (f : Nat → Int32) (g : Nat → Nat → Nat → Option ps_R) (n k : Nat) (s : ps_S) : Nat → Option ps_S
  | 0 => some s
  | i + 1 => (ps_c f g n k s i).bind fun s' => (g (n + 1 + s'.2.2.1.length) (k + s'.2.1.length) s'.1).bind fun r => some (ps_st f k i s' r)
def ps (f : Nat → Int32) (T F : Nat) : Nat → Bool → Nat → Nat → Nat → Nat → Option ps_R
  | 0, _, _, _, _, _ => none
  | d + 1, r, up, n, k, p =>
    if T < p + 2 then none
    else if f p = 0 then (if r = true ∨ T < p + 4 ∨ f (p + 3) < 1 then none else some (p + 4, [(f (p + 1), f (p + 3), 1)], [((0, up, p, 0), (k, k + 1), (f (p + 1), f (p + 2), f (p + 3)))], [], (f (p + 1), f (p + 2), f (p + 3))))
    else if f p = 1 then (ps_z F (if r = true then 0 else 1) (f (p + 1))).bind fun z => if T < p + 2 + 2 * z then none else some (p + 2 + 2 * z, ps_lf f (p + 2) z, [((1, up, p, z), (k, k + z), ps_ll f (p + 2) z)], [], ps_ll f (p + 2) z)
    else if f p = 2 then (ps_z F (if r = true then 2 else 1) (f (p + 1))).bind fun z => (ps_c f (fun n' k' p' => ps f T F d false n n' k' p') n k (p + 2, [], [], [], (0, pv_mix (pv_mix 1 2) (nI z), 0)) z).bind fun s => some (s.1, s.2.1, ((2, up, p, z), (k, k + s.2.1.length), s.2.2.2.2) :: s.2.2.1, s.2.2.2.1, s.2.2.2.2)
    else none
theorem ps_z_some {F lo z : Nat} {x : Int32} (hF : F ≤ 5) (hlo : lo ≤ 2) (h : ps_z F lo x = some z) : x = nI z ∧ lo ≤ z ∧ z ≤ F := by
  unfold ps_z at h
  by_cases h1 : x < nI lo
  · rw [if_pos h1] at h; cases h
  · rw [if_neg h1] at h
    by_cases h2 : nI F < x
    · rw [if_pos h2] at h; cases h
    · rw [if_neg h2] at h
      have h0 : ¬ x < 0 := fun q => h1 (Int32.lt_of_lt_of_le q (nI_pos' (by omega)))
      obtain ⟨j, hj, rfl⟩ := nI_of h0
      rw [nI_clamp hj] at h
      cases h
      have a1 := fun q => h1 (nI_lt (a := z) (b := lo) q (by omega))
      have a2 := fun q => h2 (nI_lt (a := F) (b := z) q hj)
      exact ⟨rfl, Nat.not_lt.mp a1, Nat.not_lt.mp a2⟩
theorem ps_lf_len (f : Nat → Int32) (p : Nat) : ∀ z, (ps_lf f p z).length = z := by
  intro z
  induction z with
  | zero => rfl
  | succ z ih => simp only [ps_lf, List.length_append, List.length_cons, List.length_nil, ih]
/-- what the three kinds of success are -/
theorem ps_inv {f : Nat → Int32} {T F d : Nat} {r : Bool} {up n k p : Nat} {R : ps_R} (hF : F ≤ 5) (h : ps f T F (d + 1) r up n k p = some R) : p + 2 ≤ T ∧
    ((f p = 0 ∧ r = false ∧ p + 4 ≤ T ∧ ¬ f (p + 3) < 1 ∧ R = (p + 4, [(f (p + 1), f (p + 3), 1)], [((0, up, p, 0), (k, k + 1), (f (p + 1), f (p + 2), f (p + 3)))], [], (f (p + 1), f (p + 2), f (p + 3)))) ∨
     (∃ z, f p = 1 ∧ f (p + 1) = nI z ∧ (if r = true then 0 else 1) ≤ z ∧ z ≤ F ∧ p + 2 + 2 * z ≤ T ∧ R = (p + 2 + 2 * z, ps_lf f (p + 2) z, [((1, up, p, z), (k, k + z), ps_ll f (p + 2) z)], [], ps_ll f (p + 2) z)) ∨
     (∃ z s, f p = 2 ∧ f (p + 1) = nI z ∧ (if r = true then 2 else 1) ≤ z ∧ z ≤ F ∧ ps_c f (fun n' k' p' => ps f T F d false n n' k' p') n k (p + 2, [], [], [], (0, pv_mix (pv_mix 1 2) (nI z), 0)) z = some s ∧ R = (s.1, s.2.1, ((2, up, p, z), (k, k + s.2.1.length), s.2.2.2.2) :: s.2.2.1, s.2.2.2.1, s.2.2.2.2))) := by
  unfold ps at h
  by_cases h1 : T < p + 2
  · rw [if_pos h1] at h; cases h
  · rw [if_neg h1] at h
    refine ⟨by omega, ?_⟩
    by_cases h2 : f p = 0
    · rw [if_pos h2] at h
      left
      by_cases h3 : r = true ∨ T < p + 4 ∨ f (p + 3) < 1
      · rw [if_pos h3] at h; cases h
      · rw [if_neg h3] at h
        cases h
        refine ⟨h2, ?_, by omega, fun q => h3 (Or.inr (Or.inr q)), rfl⟩
        cases r
        · rfl
        · exact absurd (Or.inl rfl) h3
    · rw [if_neg h2] at h
      by_cases h3 : f p = 1
      · rw [if_pos h3] at h
        right; left
        obtain ⟨z, hz, h⟩ := Option.bind_eq_some_iff.mp h
        obtain ⟨z1, z2, z3⟩ := ps_z_some hF (by split <;> omega) hz
        by_cases h4 : T < p + 2 + 2 * z
        · rw [if_pos h4] at h; cases h
        · rw [if_neg h4] at h
          cases h
          exact ⟨z, h3, z1, z2, z3, by omega, rfl⟩
      · rw [if_neg h3] at h
        by_cases h4 : f p = 2
        · rw [if_pos h4] at h
          right; right
          obtain ⟨z, hz, h⟩ := Option.bind_eq_some_iff.mp h
          obtain ⟨z1, z2, z3⟩ := ps_z_some hF (by split <;> omega) hz
          obtain ⟨s, hs, h⟩ := Option.bind_eq_some_iff.mp h
          cases h
          exact ⟨z, s, h4, z1, z2, z3, hs, rfl⟩
        · rw [if_neg h4] at h; cases h
theorem ps_c_inv {f : Nat → Int32} {g : Nat → Nat → Nat → Option ps_R} {n k i : Nat} {s s' : ps_S} (h : ps_c f g n k s (i + 1) = some s') : ∃ s1 r, ps_c f g n k s i = some s1 ∧ g (n + 1 + s1.2.2.1.length) (k + s1.2.1.length) s1.1 = some r ∧ s' = ps_st f k i s1 r := by
  obtain ⟨s1, h1, h⟩ := Option.bind_eq_some_iff.mp h
  obtain ⟨r, h2, h⟩ := Option.bind_eq_some_iff.mp h
  cases h
  exact ⟨s1, r, h1, h2, rfl⟩
/-- tokens that are taken -/
theorem ps_len {f : Nat → Int32} {T F : Nat} (hF : F ≤ 5) : ∀ (d : Nat) {r : Bool} {up n k p : Nat} {R : ps_R}, ps f T F d r up n k p = some R → p + 2 + 2 * R.2.1.length + 2 * R.2.2.2.1.length ≤ R.1 ∧ p + 2 * R.2.2.1.length ≤ R.1 ∧ R.1 ≤ T ∧ 0 < R.2.2.1.length ∧ (r = false → 0 < R.2.1.length) := by
  intro d
  induction d with
  | zero => intro r up n k p R h; cases h
  | succ d ih =>
    intro r up n k p R h
    obtain ⟨h0, h⟩ := ps_inv hF h
    rcases h with ⟨-, -, q3, -, rfl⟩ | ⟨z, -, -, q3, q4, q5, rfl⟩ | ⟨z, s, -, -, q3, q4, q5, rfl⟩
    · simp; omega
    · simp only [ps_lf_len, List.length_cons, List.length_nil]
      refine ⟨by omega, by omega, q5, by omega, fun hr => ?_⟩
      rw [hr] at q3
      have : 1 ≤ z := by simpa using q3
      omega
    · have hcn : ∀ i s, ps_c f (fun n' k' p' => ps f T F d false n n' k' p') n k (p + 2, [], [], [], (0, pv_mix (pv_mix 1 2) (nI z), 0)) i = some s → p + 2 + 2 * s.2.1.length + 2 * s.2.2.2.1.length ≤ s.1 ∧ p + 2 + 2 * s.2.2.1.length ≤ s.1 ∧ s.1 ≤ T ∧ i ≤ s.2.1.length := by
        intro i
        induction i with
        | zero => intro s hs; cases hs; simp; omega
        | succ i ihi =>
          intro s hs
          obtain ⟨s1, r1, e1, e2, rfl⟩ := ps_c_inv hs
          obtain ⟨a1, a2, a3, a4⟩ := ihi s1 e1
          obtain ⟨b1, b2, b3, b4, b5⟩ := ih e2
          have b6 := b5 rfl
          have hl : (if f s1.1 = 0 then [] else [(k + s1.2.1.length, k + s1.2.1.length + r1.2.1.length)] : List (Nat × Nat)).length ≤ 1 := by split <;> simp
          simp only [ps_st, List.length_append]
          omega
      obtain ⟨a1, a2, a3, a4⟩ := hcn z s q5
      refine ⟨by simpa using a1, by simp only [List.length_cons]; omega, a3, by simp, fun hr => ?_⟩
      rw [hr] at q3
      have : 1 ≤ z := by simpa using q3
      show 0 < s.2.1.length
      omega
