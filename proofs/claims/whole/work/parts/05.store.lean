/-! STORES: (the heap's size, what lies at an address): rows by the number of their type, objects by the number of their kind -/
abbrev sw_E : Type := (Nat × vp_A) ⊕ (Nat × List Value)
abbrev sw_S : Type := Nat × (Nat → Option sw_E)
def sw_V (cT : Nat → ClassId) : sw_E → va_E
  | .inl q => .inl (cT q.1, q.2)
  | .inr o => .inr o
abbrev sw_tys (cT : Nat → ClassId) : List (ClassId × FieldType) := [(cT 0, .int), (cT 1, .long), (cT 2, .boolean), (cT 3, .object RX1)]
def sw_H (D : va_G) (cT : Nat → ClassId) (σ : sw_S) (H : Heap) : Prop := H.size = σ.1 ∧ ∀ (a : Nat) (x : sw_E), σ.2 a = some x → va_at D vwCl (a, sw_V cT x) H
def sw_D (A : Nat → Prop) (σ : sw_S) : Prop := ∀ (a : Nat) (x : sw_E), σ.2 a = some x → A a
def sw_A (σ : sw_S) : Nat → Prop := fun q => (∃ x, σ.2 q = some x) ∨ σ.1 ≤ q
def sw_up (σ : sw_S) (a : Nat) (x : sw_E) : sw_S := (σ.1, fun b => if b = a then some x else σ.2 b)
def sw_nw (σ : sw_S) (x : sw_E) : sw_S := (σ.1 + 1, fun b => if b = σ.1 then some x else σ.2 b)
/-- an object's fields -/
def sw_ob (ci a : Nat) (σ : sw_S) : Option (List Value) := match σ.2 a with
  | some (.inr (c, fs)) => if c = ci then some fs else none
  | _ => none
def sw_vI : Option Value → Option Int32
  | some (.int x) => some x
  | _ => none
def sw_vR : Option Value → Option (Option Nat)
  | some (.ref x) => some (some x)
  | some .null => some none
  | _ => none
def sw_gI (ci a k : Nat) (σ : sw_S) : Option Int32 := (sw_ob ci a σ).bind fun fs => sw_vI fs[k]?
def sw_gR (ci a k : Nat) (σ : sw_S) : Option (Option Nat) := (sw_ob ci a σ).bind fun fs => sw_vR fs[k]?
def sw_pt (ci a k : Nat) (v : Value) (σ : sw_S) : Option sw_S := (sw_ob ci a σ).bind fun fs => if k < fs.length then some (sw_up σ a (.inr (ci, fs.set k v))) else none
/-- a boolean -/
def sw_z (x : Int32) : Option Int32 := if x = 0 ∨ x = 1 then some x else none
/-- rows of ints and booleans (t: 0, 2), of longs (1), of references (3) -/
def sw_ai (t a : Nat) (σ : sw_S) : Option (Nat × (Nat → Int32)) := match σ.2 a with
  | some (.inl (u, n, .inl f)) => if u = t then some (n, f) else none
  | _ => none
def sw_aj (a : Nat) (σ : sw_S) : Option (Nat × (Nat → Int64)) := match σ.2 a with
  | some (.inl (u, n, .inr (.inl f))) => if u = 1 then some (n, f) else none
  | _ => none
def sw_aq (a : Nat) (σ : sw_S) : Option (Nat × (Nat → Option Nat)) := match σ.2 a with
  | some (.inl (u, n, .inr (.inr (.inr (.inr f))))) => if u = 3 then some (n, f) else none
  | _ => none
/-- an index of a row of n -/
def sw_ix (i : Int32) (n : Nat) : Option Nat := if 0 ≤ i ∧ i.toNatClampNeg < n then some i.toNatClampNeg else none
def sw_al (t a : Nat) (i : Int32) (σ : sw_S) : Option Int32 := (sw_ai t a σ).bind fun q => (sw_ix i q.1).bind fun j => some (q.2 j)
def sw_as (t a : Nat) (i x : Int32) (σ : sw_S) : Option sw_S := (sw_ai t a σ).bind fun q => (sw_ix i q.1).bind fun j => some (sw_up σ a (.inl (t, q.1, .inl (upd q.2 j x))))
def sw_jl (a : Nat) (i : Int32) (σ : sw_S) : Option Int64 := (sw_aj a σ).bind fun q => (sw_ix i q.1).bind fun j => some (q.2 j)
def sw_js (a : Nat) (i : Int32) (x : Int64) (σ : sw_S) : Option sw_S := (sw_aj a σ).bind fun q => (sw_ix i q.1).bind fun j => some (sw_up σ a (.inl (1, q.1, .inr (.inl (vp_updL q.2 j x)))))
def sw_ql (a : Nat) (i : Int32) (σ : sw_S) : Option (Option Nat) := (sw_aq a σ).bind fun q => (sw_ix i q.1).bind fun j => some (q.2 j)
def sw_isN (r : Option Nat) (σ : sw_S) : Option (Option Nat) := match r with
  | none => some none
  | some b => (sw_ob 1 b σ).bind fun _ => some (some b)
def sw_qs (a : Nat) (i : Int32) (r : Option Nat) (σ : sw_S) : Option sw_S := (sw_aq a σ).bind fun q => (sw_ix i q.1).bind fun j => (sw_isN r σ).bind fun r => some (sw_up σ a (.inl (3, q.1, .inr (.inr (.inr (.inr (va_up q.2 j r)))))))
def sw_len (a : Nat) (σ : sw_S) : Option Int32 := match σ.2 a with
  | some (.inl (u, n, _)) => if u < 4 then some (Int32.ofNat n) else none
  | _ => none
/-- a length that may be made: at most k -/
def sw_nl (n : Int32) (k : Nat) : Option Nat := if 0 ≤ n ∧ n.toNatClampNeg ≤ k then some n.toNatClampNeg else none
abbrev sw_rI (n : Nat) : sw_E := .inl (0, n, .inl fun _ => 0)
abbrev sw_rJ (n : Nat) : sw_E := .inl (1, n, .inr (.inl fun _ => 0))
abbrev sw_rZ (n : Nat) : sw_E := .inl (2, n, .inl fun _ => 0)
abbrev sw_rQ (n : Nat) : sw_E := .inl (3, n, .inr (.inr (.inr (.inr fun _ => none))))
theorem sw_ob_eq {ci a : Nat} {σ : sw_S} {fs : List Value} (h : sw_ob ci a σ = some fs) : σ.2 a = some (.inr (ci, fs)) := by
  unfold sw_ob at h
  split at h
  · next c fs' hc =>
    split at h
    · next hci => cases h; subst hci; exact hc
    · cases h
  · cases h
theorem sw_ai_eq {t a n : Nat} {f : Nat → Int32} {σ : sw_S} (h : sw_ai t a σ = some (n, f)) : σ.2 a = some (.inl (t, n, .inl f)) := by
  unfold sw_ai at h
  split at h
  · next u n' f' hc =>
    split at h
    · next hci => cases h; subst hci; exact hc
    · cases h
  · cases h
theorem sw_aj_eq {a n : Nat} {f : Nat → Int64} {σ : sw_S} (h : sw_aj a σ = some (n, f)) : σ.2 a = some (.inl (1, n, .inr (.inl f))) := by
  unfold sw_aj at h
  split at h
  · next u n' f' hc =>
    split at h
    · next hci => cases h; subst hci; exact hc
    · cases h
  · cases h
theorem sw_aq_eq {a n : Nat} {f : Nat → Option Nat} {σ : sw_S} (h : sw_aq a σ = some (n, f)) : σ.2 a = some (.inl (3, n, .inr (.inr (.inr (.inr f))))) := by
  unfold sw_aq at h
  split at h
  · next u n' f' hc =>
    split at h
    · next hci => cases h; subst hci; exact hc
    · cases h
  · cases h
theorem sw_ix_eq {i : Int32} {n j : Nat} (h : sw_ix i n = some j) : vp_in i n ∧ i.toNatClampNeg = j := by
  unfold sw_ix at h
  split at h
  · next hc =>
    cases h
    exact ⟨fun q => q.elim (fun q => absurd q (Int32.not_lt.mpr hc.1)) (fun q => absurd hc.2 (Nat.not_lt.mpr q)), rfl⟩
  · cases h
theorem sw_vI_eq {v : Option Value} {x : Int32} (h : sw_vI v = some x) : v = some (.int x) := by
  unfold sw_vI at h
  split at h
  · cases h; rfl
  · cases h
theorem sw_vR_eq {v : Option Value} {x : Option Nat} (h : sw_vR v = some x) : v = some (va_rf x) := by
  unfold sw_vR at h
  split at h
  · cases h; rfl
  · cases h; rfl
  · cases h
theorem sw_gI_eq {ci a k : Nat} {σ : sw_S} {x : Int32} (h : sw_gI ci a k σ = some x) : ∃ fs, σ.2 a = some (.inr (ci, fs)) ∧ fs[k]? = some (.int x) := by
  obtain ⟨fs, h1, h2⟩ := Option.bind_eq_some_iff.mp h
  exact ⟨fs, sw_ob_eq h1, sw_vI_eq h2⟩
theorem sw_gR_eq {ci a k : Nat} {σ : sw_S} {x : Option Nat} (h : sw_gR ci a k σ = some x) : ∃ fs, σ.2 a = some (.inr (ci, fs)) ∧ fs[k]? = some (va_rf x) := by
  obtain ⟨fs, h1, h2⟩ := Option.bind_eq_some_iff.mp h
  exact ⟨fs, sw_ob_eq h1, sw_vR_eq h2⟩
theorem sw_pt_eq {ci a k : Nat} {v : Value} {σ σ' : sw_S} (h : sw_pt ci a k v σ = some σ') : ∃ fs, σ.2 a = some (.inr (ci, fs)) ∧ k < fs.length ∧ σ' = sw_up σ a (.inr (ci, fs.set k v)) := by
  obtain ⟨fs, h1, h2⟩ := Option.bind_eq_some_iff.mp h
  split at h2
  · next hk => cases h2; exact ⟨fs, sw_ob_eq h1, hk, rfl⟩
  · cases h2
theorem sw_H.lt {D : va_G} {cT : Nat → ClassId} {σ : sw_S} {H : Heap} (h : sw_H D cT σ H) {a : Nat} {x : sw_E} (ha : σ.2 a = some x) : a < σ.1 := by
  rw [← h.1]; exact (h.2 a x ha).lt
theorem sw_H.set {D : va_G} {cT : Nat → ClassId} {σ : sw_S} {H H1 : Heap} {a : Nat} {x : sw_E} (h : sw_H D cT σ H) (z : H1.size = H.size) (o : ∀ q : Nat, q ≠ a → H1[q]? = H[q]?) (hx : va_at D vwCl (a, sw_V cT x) H1) : sw_H D cT (sw_up σ a x) H1 := by
  refine ⟨z.trans h.1, fun b y hb => ?_⟩
  simp only [sw_up] at hb
  by_cases hba : b = a
  · subst hba
    rw [if_pos rfl] at hb
    cases hb
    exact hx
  · rw [if_neg hba] at hb
    exact (h.2 b y hb).kept (o b hba)
theorem sw_H.push {D : va_G} {cT : Nat → ClassId} {σ : sw_S} {H H1 : Heap} {x : sw_E} (h : sw_H D cT σ H) (z : H1.size = σ.1 + 1) (o : ∀ q : Nat, q < σ.1 → H1[q]? = H[q]?) (hx : va_at D vwCl (σ.1, sw_V cT x) H1) : sw_H D cT (sw_nw σ x) H1 := by
  refine ⟨z, fun b y hb => ?_⟩
  simp only [sw_nw] at hb
  by_cases hba : b = σ.1
  · subst hba
    rw [if_pos rfl] at hb
    cases hb
    exact hx
  · rw [if_neg hba] at hb
    exact (h.2 b y hb).kept (o b (h.lt hb))
theorem sw_D.set {A : Nat → Prop} {σ : sw_S} {a : Nat} {x : sw_E} (h : sw_D A σ) (ha : A a) : sw_D A (sw_up σ a x) := by
  intro b y hb
  simp only [sw_up] at hb
  by_cases hba : b = a
  · subst hba; exact ha
  · rw [if_neg hba] at hb; exact h b y hb
theorem sw_D.push {A : Nat → Prop} {σ : sw_S} {x : sw_E} (h : sw_D A σ) (ha : A σ.1) : sw_D A (sw_nw σ x) := by
  intro b y hb
  simp only [sw_nw] at hb
  by_cases hba : b = σ.1
  · subst hba; exact ha
  · rw [if_neg hba] at hb; exact h b y hb
