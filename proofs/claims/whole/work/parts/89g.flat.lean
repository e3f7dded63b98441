/-! A PROOF READ, LAID FLAT -/
def hp {α : Type} (Q : Nat → α → Prop) : Nat → List α → Prop
  | _, [] => True
  | n, a :: L => Q n a ∧ hp Q (n + 1) L
theorem hp_app {α : Type} {Q : Nat → α → Prop} : ∀ (A : List α) {B : List α} {n : Nat}, hp Q n (A ++ B) ↔ hp Q n A ∧ hp Q (n + A.length) B := by
  intro A
  induction A with
  | nil => intro B n; simp [hp]
  | cons a A ih =>
    intro B n
    simp only [List.cons_append, hp, ih, List.length_cons]
    rw [show n + 1 + A.length = n + (A.length + 1) by omega]
    constructor
    · rintro ⟨h1, h2, h3⟩; exact ⟨⟨h1, h2⟩, h3⟩
    · rintro ⟨⟨h1, h2⟩, h3⟩; exact ⟨h1, h2, h3⟩
theorem hp_get {α : Type} {Q : Nat → α → Prop} : ∀ {L : List α} {n : Nat}, hp Q n L → ∀ j (h : j < L.length), Q (n + j) L[j] := by
  intro L
  induction L with
  | nil => intro n _ j h; exact absurd h (Nat.not_lt_zero j)
  | cons a L ih =>
    intro n h j hj
    cases j with
    | zero => exact h.1
    | succ j =>
      have := ih h.2 j (by simpa using hj)
      rw [show n + (j + 1) = n + 1 + j by omega]
      exact this
theorem hp_of {α : Type} {Q : Nat → α → Prop} : ∀ {L : List α} {n : Nat}, (∀ j (h : j < L.length), Q (n + j) L[j]) → hp Q n L := by
  intro L
  induction L with
  | nil => intro n _; trivial
  | cons a L ih =>
    intro n h
    refine ⟨h 0 (by simp), ih fun j hj => ?_⟩
    have := h (j + 1) (by simpa using hj)
    rw [show n + 1 + j = n + (j + 1) by omega]
    exact this
abbrev nk (N : ps_N) : Nat := N.1.1
abbrev np (N : ps_N) : Nat := N.1.2.1
abbrev no (N : ps_N) : Nat := N.1.2.2.1
abbrev nz (N : ps_N) : Nat := N.1.2.2.2
abbrev nb (N : ps_N) : Nat := N.2.1.1
abbrev ne (N : ps_N) : Nat := N.2.1.2
abbrev nl (N : ps_N) : Int32 × Int32 × Int32 := N.2.2
def ow (N : ps_N) : Nat := if nk N = 0 then 1 else if nk N = 1 then nz N else 0
def cnp (G : Nat → ps_N) (v a : Nat) : Nat → Nat
  | 0 => 0
  | l + 1 => cnp G v a l + if np (G (a + l)) = v then 1 else 0
theorem cnp_add (G : Nat → ps_N) (v a l : Nat) : ∀ m, cnp G v a (l + m) = cnp G v a l + cnp G v (a + l) m := by
  intro m
  induction m with
  | zero => rfl
  | succ m ih =>
    show cnp G v a (l + m) + (if np (G (a + (l + m))) = v then 1 else 0) = cnp G v a l + (cnp G v (a + l) m + if np (G (a + l + m)) = v then 1 else 0)
    rw [ih, show a + (l + m) = a + l + m by omega]
    omega
theorem cnp_zero (G : Nat → ps_N) (v a : Nat) : ∀ l, (∀ j, a ≤ j → j < a + l → np (G j) ≠ v) → cnp G v a l = 0 := by
  intro l
  induction l with
  | zero => intro _; rfl
  | succ l ih =>
    intro h
    show cnp G v a l + (if np (G (a + l)) = v then 1 else 0) = 0
    rw [ih fun j h1 h2 => h j h1 (by omega), if_neg (h _ (by omega) (by omega))]
def ch (G : Nat → ps_N) (x m : Nat) (c : Nat → Nat) : Prop :=
  c 0 = x + 1 ∧ c (nz (G x)) ≤ m ∧
  (∀ i, i < nz (G x) → c i < c (i + 1) ∧ np (G (c i)) = x ∧ ∀ j, c i < j → j < c (i + 1) → np (G j) ≠ x) ∧
  (∀ j, c (nz (G x)) ≤ j → j < m → np (G j) ≠ x) ∧
  (∃ kc : Nat → Nat, kc 0 = nb (G x) ∧ kc (nz (G x)) = ne (G x) ∧ ∀ i, i < nz (G x) → nb (G (c i)) = kc i ∧ ne (G (c i)) = kc (i + 1)) ∧
  nl (G x) = ((nl (G (x + 1))).1, pv_it (fun i h => pv_lm h (nl (G (c i)))) (nz (G x)) (pv_mix (pv_mix 1 2) (nI (nz (G x)))), pv_it (fun i s => s + (nl (G (c i))).2.2) (nz (G x)) 0)
def nf (f : Nat → Int32) (T : Nat) (G : Nat → ps_N) (Kf : Nat → ps_K) (x m : Nat) : Prop :=
  nk (G x) ≤ 2 ∧ (nk (G x) = 0 → ne (G x) = nb (G x) + 1 ∧ Kf (nb (G x)) = ((nl (G x)).1, (nl (G x)).2.2, 1)) ∧
  (nk (G x) = 1 → ne (G x) = nb (G x) + nz (G x) ∧ nl (G x) = ps_ll f (no (G x) + 2) (nz (G x)) ∧ nz (G x) ≤ 5 ∧ no (G x) + 2 + 2 * nz (G x) ≤ T ∧ ∀ i, i < nz (G x) → Kf (nb (G x) + i) = (f (no (G x) + 2 + 2 * i), f (no (G x) + 2 + 2 * i + 1), 0)) ∧
  (nk (G x) = 2 → 1 ≤ nz (G x) ∧ nz (G x) ≤ 5 ∧ ∃ c, ch G x m c)
theorem nf_up {f : Nat → Int32} {T : Nat} {G : Nat → ps_N} {Kf : Nat → ps_K} {x m m2 : Nat} (h : nf f T G Kf x m) (hm : m ≤ m2) (hj : ∀ j, m ≤ j → j < m2 → np (G j) ≠ x) : nf f T G Kf x m2 := by
  obtain ⟨h1, h2, h3, h4⟩ := h
  refine ⟨h1, h2, h3, fun q => ?_⟩
  obtain ⟨a1, a2, c, b1, b2, b3, b4, b5⟩ := h4 q
  refine ⟨a1, a2, c, b1, by omega, b3, fun j q1 q2 => ?_, b5⟩
  by_cases q3 : j < m
  · exact b4 j q1 q3
  · exact hj j (by omega) q2
/-- what holds of the nodes from a to m, whose keys end at k' -/
def fr (f : Nat → Int32) (T : Nat) (G : Nat → ps_N) (Kf : Nat → ps_K) (a m k k' : Nat) : Prop := ∀ x, a ≤ x → x < m → nf f T G Kf x m ∧ nb (G x) + ow (G x) = (if x + 1 < m then nb (G (x + 1)) else k') ∧ (nb (G x) < ne (G x) → (nl (G x)).1 = (Kf (nb (G x))).1) ∧ k ≤ nb (G x) ∧ ne (G x) ≤ k'
/-- what holds of the nodes below n, up to m -/
def fs (G : Nat → ps_N) (n m : Nat) (C : List (Nat × Nat)) : Prop := (∀ x, n < x → x < m → n ≤ np (G x) ∧ np (G x) < x ∧ nb (G x) < ne (G x) ∧ (np (G x) = n ∨ nk (G (np (G x))) = 2)) ∧ (∀ c, c ∈ C → ∃ x, n < x ∧ x < m ∧ nk (G x) ≠ 0 ∧ c = (nb (G x), ne (G x))) ∧ ∀ x, n < x → x < m → nk (G x) ≠ 0 → (nb (G x), ne (G x)) ∈ C
def ft (f : Nat → Int32) (T : Nat) (G : Nat → ps_N) (Kf : Nat → ps_K) (r : Bool) (up n k p : Nat) (R : ps_R) : Prop :=
  (np (G n) = up ∧ nb (G n) = k ∧ ne (G n) = k + R.2.1.length ∧ nl (G n) = R.2.2.2.2 ∧ (nk (G n) = 0 ↔ f p = 0) ∧ no (G n) = p ∧ (1 < R.2.2.1.length → nk (G n) = 2)) ∧ fr f T G Kf n (n + R.2.2.1.length) k (k + R.2.1.length) ∧ fs G n (n + R.2.2.1.length) R.2.2.2.1
theorem ps_c_flat {f : Nat → Int32} {T F : Nat} (hF : F ≤ 5) {G : Nat → ps_N} {Kf : Nat → ps_K} {d : Nat}
    (ih : ∀ {r : Bool} {up n k p : Nat} {R : ps_R}, ps f T F d r up n k p = some R → hp (fun x N => G x = N) n R.2.2.1 → hp (fun x N => Kf x = N) k R.2.1 → ft f T G Kf r up n k p R)
    {n k : Nat} {p0 : Nat} {x0 : Int32 × Int32 × Int32} {c kc : Nat → Nat}
    (hc : ∀ t s, ps_c f (fun n' k' p' => ps f T F d false n n' k' p') n k (p0, [], [], [], x0) t = some s → c t = n + 1 + s.2.2.1.length ∧ kc t = k + s.2.1.length) :
    ∀ i s, ps_c f (fun n' k' p' => ps f T F d false n n' k' p') n k (p0, [], [], [], x0) i = some s → hp (fun x N => G x = N) (n + 1) s.2.2.1 → hp (fun x N => Kf x = N) k s.2.1 →
    ((∀ t, t < i → c t < c (t + 1) ∧ np (G (c t)) = n ∧ (∀ j, c t < j → j < c (t + 1) → np (G j) ≠ n) ∧ nb (G (c t)) = kc t ∧ ne (G (c t)) = kc (t + 1)) ∧
     s.2.2.2.2 = (if i = 0 then x0.1 else (nl (G (n + 1))).1, pv_it (fun t h => pv_lm h (nl (G (c t)))) i x0.2.1, pv_it (fun t h => h + (nl (G (c t))).2.2) i x0.2.2)) ∧
    fr f T G Kf (n + 1) (n + 1 + s.2.2.1.length) k (k + s.2.1.length) ∧ fs G n (n + 1 + s.2.2.1.length) s.2.2.2.1 ∧ cnp G n (n + 1) s.2.2.1.length = i ∧ (0 < i → nb (G (n + 1)) = k) := by
  intro i
  induction i with
  | zero =>
    intro s hs hG hK
    cases hs
    refine ⟨⟨fun t ht => absurd ht (Nat.not_lt_zero t), rfl⟩, fun x h1 h2 => ?_, ⟨fun x h1 h2 => ?_, fun c hc => ?_, fun x h1 h2 => ?_⟩, rfl, fun q => absurd q (Nat.lt_irrefl 0)⟩
    · simp at h2; omega
    · simp at h2; omega
    · cases hc
    · simp at h2; omega
  | succ i ihi =>
    intro s hs hG hK
    obtain ⟨e0, e00⟩ := hc _ _ hs
    obtain ⟨s1, r1, e1, e2, rfl⟩ := ps_c_inv hs
    have hG' : hp (fun x N => G x = N) (n + 1) (s1.2.2.1 ++ r1.2.2.1) := hG
    have hK' : hp (fun x N => Kf x = N) k (s1.2.1 ++ r1.2.1) := hK
    obtain ⟨G1, G2⟩ := (hp_app _).mp hG'
    obtain ⟨K1, K2⟩ := (hp_app _).mp hK'
    obtain ⟨⟨a1, a2⟩, a3, ⟨a4, a5, a6⟩, a7, a8⟩ := ihi s1 e1 G1 K1
    obtain ⟨c1, c2⟩ := hc _ _ e1
    obtain ⟨⟨b1, b2, b3, b4, b5, -, b10⟩, b6, b7, b8, b9⟩ := ih e2 G2 K2
    obtain ⟨-, -, -, l4, l5⟩ := ps_len hF d e2
    have l5 := l5 rfl
    have eN : (ps_st f k i s1 r1).2.2.1.length = s1.2.2.1.length + r1.2.2.1.length := by simp [ps_st]
    have eK : (ps_st f k i s1 r1).2.1.length = s1.2.1.length + r1.2.1.length := by simp [ps_st]
    rw [eN] at e0 ⊢
    rw [eK] at e00 ⊢
    rw [show n + 1 + (s1.2.2.1.length + r1.2.2.1.length) = n + 1 + s1.2.2.1.length + r1.2.2.1.length by omega] at e0 ⊢
    rw [show k + (s1.2.1.length + r1.2.1.length) = k + s1.2.1.length + r1.2.1.length by omega] at e00 ⊢
    have hi0 : i = 0 → s1.2.2.1.length = 0 ∧ s1.2.1.length = 0 := by
      intro q
      subst q
      cases e1
      exact ⟨rfl, rfl⟩
    have hn1 : 0 < i → 0 < s1.2.2.1.length := by
      intro q
      have := a1 0 q
      have h0 := hc 0 _ rfl
      have hmono : ∀ t, t ≤ i → 0 < t → c 0 < c t := by
        intro t
        induction t with
        | zero => intro _ q; exact absurd q (Nat.lt_irrefl 0)
        | succ t iht =>
          intro q1 _
          have h1 := (a1 t (by omega)).1
          by_cases q2 : t = 0
          · subst q2; exact h1
          · have := iht (by omega) (by omega); omega
      have := hmono i (Nat.le_refl _) q
      rw [h0.1, c1] at this
      simp at this
      omega
    generalize hm1 : n + 1 + s1.2.2.1.length = m1 at *
    generalize hk1 : k + s1.2.1.length = k1 at *
    generalize hm2 : m1 + r1.2.2.1.length = m2 at *
    generalize hk2 : k1 + r1.2.1.length = k2 at *
    refine ⟨⟨fun t ht => ?_, ?_⟩, fun x h1 h2 => ?_, ⟨fun x h1 h2 => ?_, fun cc hcc => ?_, fun x h1 h2 h3 => ?_⟩, ?_, fun _ => ?_⟩
    · by_cases q : t < i
      · exact a1 t q
      · have : t = i := by omega
        subst this
        rw [c1, e0, c2, e00]
        refine ⟨by omega, b1, fun j q1 q2 => ?_, b2, b3⟩
        have := (b7 j q1 q2).1
        omega
    · show (_, _, _) = _
      have q2 : s1.2.2.2.2.2.1 = pv_it (fun t h => pv_lm h (nl (G (c t)))) i x0.2.1 := by rw [a2]
      have q3 : s1.2.2.2.2.2.2 = pv_it (fun t h => h + (nl (G (c t))).2.2) i x0.2.2 := by rw [a2]
      refine Prod.ext ?_ (Prod.ext ?_ ?_)
      · show (if i = 0 then r1.2.2.2.2.1 else s1.2.2.2.2.1) = (if i + 1 = 0 then x0.1 else (nl (G (n + 1))).1)
        rw [if_neg (by omega : ¬ i + 1 = 0)]
        by_cases q : i = 0
        · rw [if_pos q]
          have : m1 = n + 1 := by rw [← hm1, (hi0 q).1]
          rw [← b4, this]
        · rw [if_neg q, a2]
          show (if i = 0 then x0.1 else (nl (G (n + 1))).1) = _
          rw [if_neg q]
      · show pv_lm s1.2.2.2.2.2.1 r1.2.2.2.2 = pv_lm (pv_it (fun t h => pv_lm h (nl (G (c t)))) i x0.2.1) (nl (G (c i)))
        rw [q2, c1, b4]
      · show s1.2.2.2.2.2.2 + r1.2.2.2.2.2.2 = pv_it (fun t h => h + (nl (G (c t))).2.2) i x0.2.2 + (nl (G (c i))).2.2
        rw [q3, c1, b4]
    · by_cases q : x < m1
      · obtain ⟨d1, d2, d3, d4, d5⟩ := a3 x h1 q
        refine ⟨nf_up d1 (by omega) fun j q1 q2 => ?_, ?_, d3, d4, by omega⟩
        · by_cases q3 : j = m1
          · subst q3; rw [b1]; omega
          · have := (b7 j (by omega) q2).1; omega
        · by_cases q3 : x + 1 < m1
          · rw [if_pos q3] at d2
            rw [if_pos (by omega)]; exact d2
          · rw [if_neg q3] at d2
            rw [if_pos (by omega), show x + 1 = m1 by omega, b2]; exact d2
      · obtain ⟨d1, d2, d3, d4, d5⟩ := b6 x (by omega) h2
        exact ⟨d1, d2, d3, by omega, d5⟩
    · by_cases q : x < m1
      · exact a4 x h1 q
      · by_cases q3 : x = m1
        · subst q3; exact ⟨by omega, by omega, by omega, Or.inl b1⟩
        · obtain ⟨d1, d2, d3, d4⟩ := b7 x (by omega) h2
          exact ⟨by omega, d2, d3, Or.inr (d4.elim (fun e => by rw [e]; exact b10 (by omega)) id)⟩
    · have hcc' : cc ∈ (s1.2.2.2.1 ++ r1.2.2.2.1) ++ (if f s1.1 = 0 then [] else [(k + s1.2.1.length, k + s1.2.1.length + r1.2.1.length)]) := hcc
      rcases List.mem_append.mp hcc' with g | g
      · rcases List.mem_append.mp g with g | g
        · obtain ⟨x, q1, q2, q3, q4⟩ := a5 cc g
          exact ⟨x, q1, by omega, q3, q4⟩
        · obtain ⟨x, q1, q2, q3, q4⟩ := b8 cc g
          exact ⟨x, by omega, q2, q3, q4⟩
      · by_cases q : f s1.1 = 0
        · rw [if_pos q] at g; cases g
        · rw [if_neg q, hk1, hk2] at g
          refine ⟨m1, by omega, by omega, fun q5 => q (b5.mp q5), ?_⟩
          rw [b2, b3]
          exact List.mem_singleton.mp g
    · show _ ∈ (s1.2.2.2.1 ++ r1.2.2.2.1) ++ (if f s1.1 = 0 then [] else [(k + s1.2.1.length, k + s1.2.1.length + r1.2.1.length)])
      by_cases q : x < m1
      · exact List.mem_append.mpr (Or.inl (List.mem_append.mpr (Or.inl (a6 x h1 q h3))))
      · by_cases q3 : x = m1
        · subst q3
          refine List.mem_append.mpr (Or.inr ?_)
          rw [if_neg (fun q5 => h3 (b5.mpr q5)), hk1, hk2, b2, b3]
          exact List.mem_singleton.mpr rfl
        · exact List.mem_append.mpr (Or.inl (List.mem_append.mpr (Or.inr (b9 x (by omega) h2 h3))))
    · rw [cnp_add, a7, hm1]
      obtain ⟨l, hl⟩ : ∃ l, r1.2.2.1.length = 1 + l := ⟨r1.2.2.1.length - 1, by omega⟩
      rw [hl, cnp_add]
      have z1 : cnp G n m1 1 = 1 := by
        show 0 + (if np (G (m1 + 0)) = n then 1 else 0) = 1
        rw [Nat.add_zero, b1, if_pos rfl]
      rw [z1, cnp_zero _ _ _ l fun j q1 q2 => by have := (b7 j (by omega) (by omega)).1; omega]
    · by_cases q : i = 0
      · have : m1 = n + 1 := by rw [← hm1, (hi0 q).1]
        rw [← this, b2, ← hk1, (hi0 q).2]; rfl
      · exact a8 (by omega)
theorem ps_flat {f : Nat → Int32} {T F : Nat} (hF : F ≤ 5) {G : Nat → ps_N} {Kf : Nat → ps_K} : ∀ (d : Nat) {r : Bool} {up n k p : Nat} {R : ps_R}, ps f T F d r up n k p = some R → hp (fun x N => G x = N) n R.2.2.1 → hp (fun x N => Kf x = N) k R.2.1 → ft f T G Kf r up n k p R := by
  intro d
  induction d with
  | zero => intro r up n k p R h; cases h
  | succ d ih =>
    intro r up n k p R h hG hK
    obtain ⟨h0, h⟩ := ps_inv hF h
    rcases h with ⟨q1, -, q3, -, rfl⟩ | ⟨z, q1, -, q3, q4, q5, rfl⟩ | ⟨z, s, q1, -, q3, q4, q5, rfl⟩
    · have g : G n = ((0, up, p, 0), (k, k + 1), (f (p + 1), f (p + 2), f (p + 3))) := hG.1
      have kg : Kf k = (f (p + 1), f (p + 3), 1) := hK.1
      refine ⟨⟨by rw [g], by rw [g], by rw [g]; rfl, by rw [g], by rw [g]; simp [q1], by rw [g], fun q => absurd q (by simp)⟩, fun x x1 x2 => ?_, ⟨fun x x1 x2 => ?_, fun c hc => (by cases hc), fun x x1 x2 => ?_⟩⟩
      · have : x = n := by simp at x2; omega
        subst this
        refine ⟨⟨by rw [g]; exact (by decide : (0 : Nat) ≤ 2), fun _ => ?_, fun q => ?_, fun q => ?_⟩, ?_, fun _ => ?_, by rw [g]; exact Nat.le_refl _, by rw [g]; exact Nat.le_refl _⟩
        · rw [g]; exact ⟨rfl, kg⟩
        · rw [g] at q; cases q
        · rw [g] at q; cases q
        · rw [g, if_neg (by simp)]; rfl
        · rw [g]; show f (p + 1) = (Kf k).1; rw [kg]
      · simp at x2; omega
      · simp at x2; omega
    · have g : G n = ((1, up, p, z), (k, k + z), ps_ll f (p + 2) z) := hG.1
      have kg : ∀ i, i < z → Kf (k + i) = (f (p + 2 + 2 * i), f (p + 2 + 2 * i + 1), 0) := by
        intro i hi
        have := hp_get hK i (by rw [ps_lf_len]; exact hi)
        rw [this, ps_lf_get]
      refine ⟨⟨by rw [g], by rw [g], by rw [g]; show k + z = k + (ps_lf f (p + 2) z).length; rw [ps_lf_len], by rw [g], by rw [g]; simp [q1], by rw [g], fun q => absurd q (by simp)⟩, fun x x1 x2 => ?_, ⟨fun x x1 x2 => ?_, fun c hc => (by cases hc), fun x x1 x2 => ?_⟩⟩
      · have : x = n := by simp at x2; omega
        subst this
        refine ⟨⟨by rw [g]; exact (by decide : (1 : Nat) ≤ 2), fun q => ?_, fun _ => ?_, fun q => ?_⟩, ?_, fun q => ?_, by rw [g]; exact Nat.le_refl _, by rw [g]; show k + z ≤ k + (ps_lf f (p + 2) z).length; rw [ps_lf_len]; exact Nat.le_refl _⟩
        · rw [g] at q; cases q
        · rw [g]; exact ⟨rfl, rfl, by show z ≤ 5; omega, q5, kg⟩
        · rw [g] at q; cases q
        · rw [g, if_neg (by simp)]; show k + z = k + (ps_lf f (p + 2) z).length; rw [ps_lf_len]
        · rw [g] at q ⊢
          have hz : 0 < z := by have : k < k + z := q; omega
          show (if z = 0 then 0 else f (p + 2)) = (Kf k).1
          rw [if_neg (by omega)]
          have := kg 0 hz
          rw [Nat.add_zero] at this
          rw [this]
      · simp at x2; omega
      · simp at x2; omega
    · have hG' : G n = ((2, up, p, z), (k, k + s.2.1.length), s.2.2.2.2) ∧ hp (fun x N => G x = N) (n + 1) s.2.2.1 := hG
      obtain ⟨g, hG2⟩ := hG'
      have hK2 : hp (fun x N => Kf x = N) k s.2.1 := hK
      obtain ⟨c, kc, hc⟩ : ∃ c kc : Nat → Nat, ∀ t s', ps_c f (fun n' k' p' => ps f T F d false n n' k' p') n k (p + 2, [], [], [], (0, pv_mix (pv_mix 1 2) (nI z), 0)) t = some s' → c t = n + 1 + s'.2.2.1.length ∧ kc t = k + s'.2.1.length := by
        refine ⟨fun t => n + 1 + ((ps_c f (fun n' k' p' => ps f T F d false n n' k' p') n k (p + 2, [], [], [], (0, pv_mix (pv_mix 1 2) (nI z), 0)) t).elim 0 fun s => s.2.2.1.length), fun t => k + ((ps_c f (fun n' k' p' => ps f T F d false n n' k' p') n k (p + 2, [], [], [], (0, pv_mix (pv_mix 1 2) (nI z), 0)) t).elim 0 fun s => s.2.1.length), fun t s' e => ?_⟩
        simp only [e]
        exact ⟨rfl, rfl⟩
      obtain ⟨⟨a1, a2⟩, a3, ⟨a4, a5, a6⟩, a7, a8⟩ := ps_c_flat hF ih hc z s q5 hG2 hK2
      have cz := hc z s q5
      have c0 := hc 0 _ rfl
      have hz : 1 ≤ z := by cases r <;> simp at q3 <;> omega
      have eN : n + (((2, up, p, z), (k, k + s.2.1.length), s.2.2.2.2) :: s.2.2.1 : List ps_N).length = n + 1 + s.2.2.1.length := by simp; omega
      have gk : nk (G n) = 2 := by rw [g]
      have gz : nz (G n) = z := by rw [g]
      have gb : nb (G n) = k := by rw [g]
      have ge : ne (G n) = k + s.2.1.length := by rw [g]
      have gl : nl (G n) = s.2.2.2.2 := by rw [g]
      have hlen : 0 < s.2.2.1.length := by
        have hmono : ∀ t, t ≤ z → 0 < t → c 0 < c t := by
          intro t
          induction t with
          | zero => intro _ q; exact absurd q (Nat.lt_irrefl 0)
          | succ t iht =>
            intro q1 _
            have h1 := (a1 t (by omega)).1
            by_cases q2 : t = 0
            · subst q2; exact h1
            · have := iht (by omega) (by omega); omega
        have := hmono z (Nat.le_refl _) hz
        rw [c0.1, cz.1] at this
        simp at this
        omega
      refine ⟨⟨by rw [g], gb, ge, gl, by rw [g]; simp [q1], by rw [g], fun _ => gk⟩, ?_, ?_⟩
      · show fr f T G Kf n (n + (((2, up, p, z), (k, k + s.2.1.length), s.2.2.2.2) :: s.2.2.1 : List ps_N).length) k (k + s.2.1.length)
        rw [eN]
        intro x x1 x2
        by_cases q : x = n
        · subst q
          refine ⟨⟨by rw [gk]; exact Nat.le_refl 2, fun q => (by rw [gk] at q; cases q), fun q => (by rw [gk] at q; cases q), fun _ => ⟨by omega, by omega, c, ?_⟩⟩, ?_, fun q => ?_, by omega, by omega⟩
          · unfold ch
            rw [gz]
            refine ⟨by rw [c0.1]; rfl, by omega, fun i hi => ⟨(a1 i hi).1, (a1 i hi).2.1, (a1 i hi).2.2.1⟩, fun j j1 j2 => by omega, ⟨kc, by rw [c0.2, gb]; rfl, by rw [cz.2, ge], fun i hi => ⟨(a1 i hi).2.2.2.1, (a1 i hi).2.2.2.2⟩⟩, ?_⟩
            rw [gl, a2, if_neg (by omega)]
          · rw [if_pos (by omega), a8 (by omega), gb]
            unfold ow
            rw [gk]; rfl
          · have h1 := a3 (x + 1) (Nat.le_refl _) (by omega)
            have h2 := (a4 (x + 1) (by omega) (by omega)).2.2.1
            have h3 := h1.2.2.1 h2
            rw [gl, a2, if_neg (by omega)]
            show (nl (G (x + 1))).1 = _
            rw [h3, gb, a8 (by omega)]
        · exact a3 x (by omega) x2
      · show fs G n (n + (((2, up, p, z), (k, k + s.2.1.length), s.2.2.2.2) :: s.2.2.1 : List ps_N).length) s.2.2.2.1
        rw [eN]
        exact ⟨a4, a5, a6⟩
