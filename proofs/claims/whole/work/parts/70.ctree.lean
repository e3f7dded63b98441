/-! THE CLASS'S TREE OBJECT beside its nodes -/
def ct_P (tr : Nat) (PO : Nat → Prop) : Nat → Prop := fun c => (c = tr ∨ c = tr + 1 ∨ c = tr + 2) ∨ PO c
def ct_o (tr : Nat) (σ : sw_S) (F h root : Nat) (pth : Nat → Option Nat) (plc : Nat → Int32) : Prop := σ.2 tr = some (.inr (6, [.int (nI F), .int (nI ((F + 1) / 2)), .ref (tr + 1), .ref (tr + 2), .ref root, .int (nI h)])) ∧ σ.2 (tr + 1) = some (.inl (3, 6, .inr (.inr (.inr (.inr pth))))) ∧ σ.2 (tr + 2) = some (.inl (0, 6, .inl plc))
/-- nodes, tree object, and what else is kept apart -/
def ct (tr : Nat) (PO : Nat → Prop) (N : Nat) (σ : sw_S) (H : pv_H) (F h root : Nat) (pth : Nat → Option Nat) (plc : Nat → Int32) : Prop := pv_NS N (ct_P tr PO) σ H ∧ ct_o tr σ F h root pth plc ∧ (∀ c, PO c → (c ≠ tr ∧ c ≠ tr + 1 ∧ c ≠ tr + 2) ∧ c < σ.1) ∧ tr + 2 < σ.1
/-- what is kept apart stays; the heap may grow -/
def pv_sg (P : Nat → Prop) (σ σ' : sw_S) : Prop := σ.1 ≤ σ'.1 ∧ ∀ c, P c → σ'.2 c = σ.2 c
theorem pv_sg.rf {P : Nat → Prop} {σ : sw_S} : pv_sg P σ σ := ⟨Nat.le_refl _, fun _ _ => rfl⟩
theorem pv_sg.tr {P : Nat → Prop} {σ σ1 σ2 : sw_S} (h : pv_sg P σ σ1) (h2 : pv_sg P σ1 σ2) : pv_sg P σ σ2 := ⟨Nat.le_trans h.1 h2.1, fun c hc => (h2.2 c hc).trans (h.2 c hc)⟩
theorem pv_st.sg {P : Nat → Prop} {σ σ' : sw_S} (h : pv_st P σ σ') : pv_sg P σ σ' := ⟨Nat.le_of_eq h.1.symm, h.2⟩
section CT
variable {tr : Nat} {PO : Nat → Prop} {N : Nat} {σ : sw_S} {H : pv_H} {F h root : Nat} {pth : Nat → Option Nat} {plc : Nat → Int32}
theorem ct.ob (c : ct tr PO N σ H F h root pth plc) : sw_ob 6 tr σ = some [.int (nI F), .int (nI ((F + 1) / 2)), .ref (tr + 1), .ref (tr + 2), .ref root, .int (nI h)] := by simp [sw_ob, c.2.1.1]
theorem ct.g0 (c : ct tr PO N σ H F h root pth plc) : sw_gI 6 tr 0 σ = some (nI F) := by unfold sw_gI; rw [c.ob]; rfl
theorem ct.g1 (c : ct tr PO N σ H F h root pth plc) : sw_gI 6 tr 1 σ = some (nI ((F + 1) / 2)) := by unfold sw_gI; rw [c.ob]; rfl
theorem ct.g5 (c : ct tr PO N σ H F h root pth plc) : sw_gI 6 tr 5 σ = some (nI h) := by unfold sw_gI; rw [c.ob]; rfl
theorem ct.r2 (c : ct tr PO N σ H F h root pth plc) : sw_gR 6 tr 2 σ = some (some (tr + 1)) := by unfold sw_gR; rw [c.ob]; rfl
theorem ct.r3 (c : ct tr PO N σ H F h root pth plc) : sw_gR 6 tr 3 σ = some (some (tr + 2)) := by unfold sw_gR; rw [c.ob]; rfl
theorem ct.r4 (c : ct tr PO N σ H F h root pth plc) : sw_gR 6 tr 4 σ = some (some root) := by unfold sw_gR; rw [c.ob]; rfl
theorem ct.pa (c : ct tr PO N σ H F h root pth plc) {j : Nat} (hj : j < 6) : sw_ql (tr + 1) (nI j) σ = some (pth j) := by
  simp [sw_ql, sw_aq, c.2.1.2.1, sw_ix_nI hj (by decide)]
theorem ct.pl (c : ct tr PO N σ H F h root pth plc) {j : Nat} (hj : j < 6) : sw_al 0 (tr + 2) (nI j) σ = some (plc j) := by
  simp [sw_al, sw_ai, c.2.1.2.2, sw_ix_nI hj (by decide)]
/-- a cell that is kept apart may change: the nodes stay -/
theorem ct_NS {P : Nat → Prop} (h : pv_NS N P σ H) {c0 : Nat} (hc : P c0) (x : sw_E) : pv_NS N P (sw_up σ c0 x) H := by
  refine ⟨fun a v ha i hi => ?_, h.2.1, h.2.2.1, h.2.2.2⟩
  simp only [sw_up]
  rw [if_neg (fun q => h.2.1 a v i ha hi (by rw [q]; exact hc))]
  exact h.1 a v ha i hi
/-- the kept cells after a node method -/
theorem ct.sg (c : ct tr PO N σ H F h root pth plc) {σ' : sw_S} {H' : pv_H} (hn : pv_NS N (ct_P tr PO) σ' H') (hs : pv_sg (ct_P tr PO) σ σ') : ct tr PO N σ' H' F h root pth plc ∧ pv_sg PO σ σ' := by
  refine ⟨⟨hn, ⟨?_, ?_, ?_⟩, fun q hq => ⟨(c.2.2.1 q hq).1, Nat.lt_of_lt_of_le (c.2.2.1 q hq).2 hs.1⟩, Nat.lt_of_lt_of_le c.2.2.2 hs.1⟩, hs.1, fun q hq => hs.2 q (Or.inr hq)⟩
  · rw [hs.2 tr (Or.inl (Or.inl rfl))]; exact c.2.1.1
  · rw [hs.2 (tr + 1) (Or.inl (Or.inr (Or.inl rfl)))]; exact c.2.1.2.1
  · rw [hs.2 (tr + 2) (Or.inl (Or.inr (Or.inr rfl)))]; exact c.2.1.2.2
theorem ct.st (c : ct tr PO N σ H F h root pth plc) {σ' : sw_S} {H' : pv_H} (hn : pv_NS N (ct_P tr PO) σ' H') (hs : pv_st (ct_P tr PO) σ σ') : ct tr PO N σ' H' F h root pth plc ∧ pv_sg PO σ σ' := c.sg hn hs.sg
theorem ct.lt (c : ct tr PO N σ H F h root pth plc) : ∀ q, ct_P tr PO q → q < σ.1 := by
  rintro q (q' | hq)
  · have := c.2.2.2; omega
  · exact (c.2.2.1 q hq).2
theorem ct_PO (hPO : ∀ c, PO c → (c ≠ tr ∧ c ≠ tr + 1 ∧ c ≠ tr + 2) ∧ c < σ.1) (x : sw_E) {c0 : Nat} (h0 : c0 = tr ∨ c0 = tr + 1 ∨ c0 = tr + 2) : pv_sg PO σ (sw_up σ c0 x) := by
  refine ⟨Nat.le_refl _, fun q hq => ?_⟩
  simp only [sw_up]
  rw [if_neg]
  rintro rfl
  obtain ⟨⟨a, b, d⟩, -⟩ := hPO q hq
  rcases h0 with e | e | e
  · exact a e
  · exact b e
  · exact d e
theorem ct.spa (c : ct tr PO N σ H F h root pth plc) {j : Nat} (hj : j < 6) {r : Option Nat} (hr : ∀ b, r = some b → ∃ w, H b = some w) : ∃ σ', sw_qs (tr + 1) (nI j) r σ = some σ' ∧ ct tr PO N σ' H F h root (va_up pth j r) plc ∧ pv_sg PO σ σ' := by
  have hN : sw_isN r σ = some r := by
    cases r with
    | none => rfl
    | some b =>
      obtain ⟨⟨l', s', z', e', c', d'⟩, hw⟩ := hr b rfl
      simp [sw_isN, pv_ob c.1 hw]
  refine ⟨sw_up σ (tr + 1) (.inl (3, 6, .inr (.inr (.inr (.inr (va_up pth j r)))))), ?_, ⟨ct_NS c.1 (Or.inl (Or.inr (Or.inl rfl))) _, ⟨?_, ?_, ?_⟩, c.2.2⟩, ct_PO c.2.2.1 _ (Or.inr (Or.inl rfl))⟩
  · simp [sw_qs, sw_aq, c.2.1.2.1, sw_ix_nI hj (by decide), hN]
  · simp only [sw_up]; rw [if_neg (by omega)]; exact c.2.1.1
  · simp only [sw_up]; rw [if_pos trivial]
  · simp only [sw_up]; rw [if_neg (by omega)]; exact c.2.1.2.2
theorem ct.spl (c : ct tr PO N σ H F h root pth plc) {j : Nat} (hj : j < 6) (x : Int32) : ∃ σ', sw_as 0 (tr + 2) (nI j) x σ = some σ' ∧ ct tr PO N σ' H F h root pth (upd plc j x) ∧ pv_sg PO σ σ' := by
  refine ⟨sw_up σ (tr + 2) (.inl (0, 6, .inl (upd plc j x))), ?_, ⟨ct_NS c.1 (Or.inl (Or.inr (Or.inr rfl))) _, ⟨?_, ?_, ?_⟩, c.2.2⟩, ct_PO c.2.2.1 _ (Or.inr (Or.inr rfl))⟩
  · simp [sw_as, sw_ai, c.2.1.2.2, sw_ix_nI hj (by decide)]
  · simp only [sw_up]; rw [if_neg (by omega)]; exact c.2.1.1
  · simp only [sw_up]; rw [if_neg (by omega)]; exact c.2.1.2.1
  · simp only [sw_up]; rw [if_pos trivial]
theorem ct.sroot (c : ct tr PO N σ H F h root pth plc) (r : Nat) : ∃ σ', sw_pt 6 tr 4 (va_rf (some r)) σ = some σ' ∧ ct tr PO N σ' H F h r pth plc ∧ pv_sg PO σ σ' := by
  refine ⟨_, by unfold sw_pt; rw [c.ob]; rfl, ⟨ct_NS c.1 (Or.inl (Or.inl rfl)) _, ⟨?_, ?_, ?_⟩, c.2.2⟩, ct_PO c.2.2.1 _ (Or.inl rfl)⟩
  · simp only [sw_up]; rw [if_pos trivial]; rfl
  · simp only [sw_up]; rw [if_neg (by omega)]; exact c.2.1.2.1
  · simp only [sw_up]; rw [if_neg (by omega)]; exact c.2.1.2.2
theorem ct.sh (c : ct tr PO N σ H F h root pth plc) (h' : Nat) : ∃ σ', sw_pt 6 tr 5 (.int (nI h')) σ = some σ' ∧ ct tr PO N σ' H F h' root pth plc ∧ pv_sg PO σ σ' := by
  refine ⟨_, by unfold sw_pt; rw [c.ob]; rfl, ⟨ct_NS c.1 (Or.inl (Or.inl rfl)) _, ⟨?_, ?_, ?_⟩, c.2.2⟩, ct_PO c.2.2.1 _ (Or.inl rfl)⟩
  · simp only [sw_up]; rw [if_pos trivial]; rfl
  · simp only [sw_up]; rw [if_neg (by omega)]; exact c.2.1.2.1
  · simp only [sw_up]; rw [if_neg (by omega)]; exact c.2.1.2.2
end CT
/-- a slot of level l that stands for what has index x below -/
def cp_q (A : Nat → Nat → Nat) (Ek Ev : Nat → Int32) (l x : Nat) (q : Int32 × Int32 × Option Nat) : Prop := (l = 0 → q = (Ek x, Ev x, none)) ∧ (0 < l → q.2.2 = some (A (l - 1) x))
abbrev cp_L : Type := Nat → Nat → Int32 × Int32 × Int32
/-- a node of level l at a: n slots from index f on, labels b -/
def cp_n (H : pv_H) (a : Nat) (A : Nat → Nat → Nat) (Ek Ev : Nat → Int32) (l f n : Nat) (b : Int32 × Int32 × Int32) : Prop := ∃ s, H a = some ((if l = 0 then 1 else 0), s, nI n, b.1, b.2.2, b.2.1) ∧ (l = 0 → ∀ j, (s j).2.2 = none) ∧ ∀ j, j < n → cp_q A Ek Ev l (f + j) (s j)
def cp_j (S : pv_Sh) (A : Nat → Nat → Nat) : Prop := ∀ l k l' k', l < S.1 → k < S.2.1 l → l' < S.1 → k' < S.2.1 l' → A l k = A l' k' → l = l' ∧ k = k'
def cp (H : pv_H) (A : Nat → Nat → Nat) (Lb : cp_L) (S : pv_Sh) (Ek Ev : Nat → Int32) : Prop := (∀ l k, l < S.1 → k < S.2.1 l → cp_n H (A l k) A Ek Ev l (pv_sum (S.2.2 l) k) (S.2.2 l k) (Lb l k)) ∧ cp_j S A
/-- labels out of what is below -/
def cp_w (Ek Ev : Nat → Int32) (Lb : cp_L) (l f n : Nat) (le : Int32) : Int32 × Int32 × Int32 := match l with
  | 0 => (if n = 0 then le else Ek f, pv_it (fun j h => pv_mix (pv_mix h (Ek (f + j))) (Ev (f + j))) n (pv_mix (pv_mix 1 1) (nI n)), nI n)
  | l + 1 => (if n = 0 then le else (Lb l f).1, pv_it (fun j h => pv_lm h (Lb l (f + j))) n (pv_mix (pv_mix 1 2) (nI n)), pv_it (fun j x => x + (Lb l (f + j)).2.2) n 0)
def cp_lc (S : pv_Sh) (Ek Ev : Nat → Int32) (Lb : cp_L) (l k : Nat) : Prop := Lb l k = cp_w Ek Ev Lb l (pv_sum (S.2.2 l) k) (S.2.2 l k) (Lb l k).1
theorem pv_it_congr {α : Type} {f g : Nat → α → α} {n : Nat} {x : α} (h : ∀ j, j < n → ∀ y, f j y = g j y) : pv_it f n x = pv_it g n x := by
  induction n with
  | zero => rfl
  | succ n ih => simp only [pv_it]; rw [ih (fun j hj => h j (by omega)), h n (by omega)]
theorem cp_lab {Lb : cp_L} {S : pv_Sh} {Ek Ev : Nat → Int32} {c : Nat} (hok : pv_ok S c) (hlc : ∀ l k, l < S.1 → k < S.2.1 l → cp_lc S Ek Ev Lb l k) : ∀ l, l < S.1 → ∀ k, k < S.2.1 l → (S.2.2 l k ≠ 0 → (Lb l k).1 = Ek (pv_fi S.2.2 l k)) ∧ (Lb l k).2.1 = pv_dg S.2.2 Ek Ev l k ∧ (Lb l k).2.2 = pv_cn S.2.2 l k := by
  obtain ⟨o1, o2, o3, o4, o5, o6, o7⟩ := hok
  intro l
  induction l with
  | zero =>
    intro hl k hk
    have q := hlc 0 k hl hk
    unfold cp_lc at q
    refine ⟨fun hz => ?_, ?_, ?_⟩
    · rw [q]; simp only [cp_w]; rw [if_neg hz]; rfl
    · rw [q]; rfl
    · rw [q]; rfl
  | succ l ih =>
    intro hl k hk
    have q := hlc (l + 1) k hl hk
    unfold cp_lc at q
    have hkid : ∀ j, j < S.2.2 (l + 1) k → pv_sum (S.2.2 (l + 1)) k + j < S.2.1 l := fun j hj => by
      have := pv_sum_lt (z := S.2.2 (l + 1)) (c := S.2.1 (l + 1)) (j := j) hk hj
      rw [o5 l hl] at this; exact this
    have hlk : ∀ j, j < S.2.2 (l + 1) k → Lb l (pv_sum (S.2.2 (l + 1)) k + j) = (Ek (pv_fi S.2.2 l (pv_sum (S.2.2 (l + 1)) k + j)), pv_dg S.2.2 Ek Ev l (pv_sum (S.2.2 (l + 1)) k + j), pv_cn S.2.2 l (pv_sum (S.2.2 (l + 1)) k + j)) := fun j hj => by
      obtain ⟨i1, i2, i3⟩ := ih (by omega) _ (hkid j hj)
      have := o6 l hl _ (hkid j hj)
      rw [← i1 (by omega), ← i2, ← i3]
    refine ⟨fun hz => ?_, ?_, ?_⟩
    · rw [q]; simp only [cp_w]; rw [if_neg hz]
      have := hlk 0 (by omega)
      rw [Nat.add_zero] at this
      rw [this]; rfl
    · rw [q]
      show pv_it _ _ _ = pv_it _ _ _
      exact pv_it_congr (fun j hj y => by rw [hlk j hj])
    · rw [q]
      show pv_it _ _ _ = pv_it _ _ _
      exact pv_it_congr (fun j hj y => by rw [hlk j hj])
theorem cp_n.lb {H : pv_H} {a : Nat} {A : Nat → Nat → Nat} {Ek Ev : Nat → Int32} {l f n : Nat} {b : Int32 × Int32 × Int32} (h : cp_n H a A Ek Ev l f n b) : pv_lb H (some a) = b := by
  obtain ⟨s, h1, -⟩ := h
  simp [pv_lb, h1]
theorem cp_n.mv {H H' : pv_H} {a a' : Nat} {A A' : Nat → Nat → Nat} {Ek Ev Ek' Ev' : Nat → Int32} {l f f' n : Nat} {b : Int32 × Int32 × Int32} (h : cp_n H a A Ek Ev l f n b) (ha : H' a' = H a) (he : l = 0 → ∀ j, j < n → Ek' (f' + j) = Ek (f + j) ∧ Ev' (f' + j) = Ev (f + j)) (hA : 0 < l → ∀ j, j < n → A' (l - 1) (f' + j) = A (l - 1) (f + j)) : cp_n H' a' A' Ek' Ev' l f' n b := by
  obtain ⟨s, h1, h3, h2⟩ := h
  refine ⟨s, ha.trans h1, h3, fun j hj => ⟨fun hl => ?_, fun hl => ?_⟩⟩
  · rw [(h2 j hj).1 hl, (he hl j hj).1, (he hl j hj).2]
  · rw [(h2 j hj).2 hl, hA hl j hj]
theorem pv_childF_spec (H : pv_H) (s : pv_s) (key : Int32) : ∀ (k i : Nat), i ≤ pv_childF H s key k i ∧ pv_childF H s key k i ≤ i + k ∧ (pv_childF H s key k i = i ∨ ¬ key < (pv_lb H (s (pv_childF H s key k i)).2.2).1) ∧ (pv_childF H s key k i < i + k → key < (pv_lb H (s (pv_childF H s key k i + 1)).2.2).1) := by
  intro k
  induction k with
  | zero => intro i; exact ⟨Nat.le_refl _, Nat.le_refl _, Or.inl rfl, fun h => absurd h (by simp [pv_childF])⟩
  | succ k ih =>
    intro i
    simp only [pv_childF]
    by_cases hc : key < (pv_lb H (s (i + 1)).2.2).1
    · rw [if_pos hc]; exact ⟨Nat.le_refl _, by omega, Or.inl rfl, fun _ => hc⟩
    · rw [if_neg hc]
      obtain ⟨h1, h2, h3, h4⟩ := ih (i + 1)
      refine ⟨by omega, by omega, Or.inr ?_, fun q => h4 (by omega)⟩
      rcases h3 with e | e
      · rw [e]; exact hc
      · exact e
/-- the way to a key: an index at each level from l upwards, each the parent's child; least keys around -/
def cp_way (S : pv_Sh) (Ek : Nat → Int32) (key : Int32) (kk : Nat → Nat) (l : Nat) : Prop := (∀ i, l ≤ i → i < S.1 → kk i < S.2.1 i) ∧ (∀ i, l ≤ i → i + 1 < S.1 → pv_sum (S.2.2 (i + 1)) (kk (i + 1)) ≤ kk i ∧ kk i < pv_sum (S.2.2 (i + 1)) (kk (i + 1)) + S.2.2 (i + 1) (kk (i + 1))) ∧ (kk l = 0 ∨ Ek (pv_fi S.2.2 l (kk l)) ≤ key) ∧ (kk l + 1 < S.2.1 l → key < Ek (pv_fi S.2.2 l (kk l + 1)))
