/-! WHERE A KEY LIES in the leaf that the way ends in, and get -/
theorem cw_b2 {α β γ : Type} (x : α) (y : β) (k : α → β → Option γ) : sw_b2 (some (x, y)) k = k x y := rfl
theorem pv_upF_uniq {Ek : Nat → Int32} {key : Int32} {c u : Nat} (hu : u ≤ c) (h1 : ∀ j, j < u → ¬ key < Ek j) (h2 : u < c → key < Ek u) : pv_upF Ek key c 0 = u := by
  obtain ⟨-, g2, g3, g4⟩ := pv_upF_le Ek key c 0
  rcases Nat.lt_trichotomy (pv_upF Ek key c 0) u with q | q | q
  · exact absurd (g4 (by omega)) (h1 _ q)
  · exact q
  · exact absurd (h2 (by omega)) (g3 u (by omega) q)
theorem cw_at {F c : Nat} {S : pv_Sh} {Ek : Nat → Int32} {key : Int32} {kk : Nat → Nat} {s : pv_s} (hw : pv_wf F S c) (hso : ∀ i j, i < j → j < c → Ek i < Ek j) (hy : cp_way S Ek key kk 0) (hs : ∀ j, j < S.2.2 0 (kk 0) → (s j).1 = Ek (pv_sum (S.2.2 0) (kk 0) + j)) :
    pv_sum (S.2.2 0) (kk 0) + S.2.2 0 (kk 0) ≤ c ∧ pv_slotF s key (S.2.2 0 (kk 0)) 0 ≤ S.2.2 0 (kk 0) ∧
    ((pv_slotF s key (S.2.2 0 (kk 0)) 0 < S.2.2 0 (kk 0) ∧ Ek (pv_sum (S.2.2 0) (kk 0) + pv_slotF s key (S.2.2 0 (kk 0)) 0) = key ∧ pv_fd Ek c key = some (pv_sum (S.2.2 0) (kk 0) + pv_slotF s key (S.2.2 0 (kk 0)) 0) ∧ pv_hd S 0 (pv_sum (S.2.2 0) (kk 0) + pv_slotF s key (S.2.2 0 (kk 0)) 0) = kk 0) ∨
     (¬ (pv_slotF s key (S.2.2 0 (kk 0)) 0 < S.2.2 0 (kk 0) ∧ (s (pv_slotF s key (S.2.2 0 (kk 0)) 0)).1 = key) ∧ pv_fd Ek c key = none ∧ pv_upF Ek key c 0 = pv_sum (S.2.2 0) (kk 0) + pv_slotF s key (S.2.2 0 (kk 0)) 0 ∧ pv_hd S 0 (pv_upF Ek key c 0 - 1) = kk 0)) := by
  obtain ⟨w1, w2, w3, w4, w5, w6, w7, w8, w9⟩ := id hw
  have hk := hy.1 0 (Nat.le_refl _) w3
  have hend : pv_sum (S.2.2 0) (kk 0) + S.2.2 0 (kk 0) ≤ c := by
    have := pv_sum_mono (S.2.2 0) (kk 0 + 1) (S.2.1 0 - (kk 0 + 1))
    rw [show kk 0 + 1 + (S.2.1 0 - (kk 0 + 1)) = S.2.1 0 by omega, w5] at this
    exact this
  have hlast : pv_sum (S.2.2 0) (kk 0) + S.2.2 0 (kk 0) < c → key < Ek (pv_sum (S.2.2 0) (kk 0) + S.2.2 0 (kk 0)) := by
    intro hlt
    rcases (show kk 0 + 1 < S.2.1 0 ∨ kk 0 + 1 = S.2.1 0 by omega) with q | q
    · exact hy.2.2.2 q
    · have : pv_sum (S.2.2 0) (kk 0 + 1) = c := by rw [q]; exact w5
      simp only [pv_sum] at this; omega
  have hpos : kk 0 ≠ 0 → 0 < S.2.2 0 (kk 0) := by
    intro h0
    refine hw.pos w3 hk ?_
    rcases (show S.1 = 1 ∨ 1 < S.1 by omega) with q | q
    · rw [q] at w4; simp only [Nat.sub_self] at w4; omega
    · exact q
  have hfst : kk 0 ≠ 0 → Ek (pv_sum (S.2.2 0) (kk 0)) ≤ key := fun h0 => hy.2.2.1.resolve_left h0
  have hf0 : kk 0 = 0 → pv_sum (S.2.2 0) (kk 0) = 0 := fun h0 => by rw [h0]; rfl
  obtain ⟨-, i2, i3, i4⟩ := pv_slotF_le s key (S.2.2 0 (kk 0)) 0
  generalize pv_slotF s key (S.2.2 0 (kk 0)) 0 = i at i2 i3 i4 ⊢
  generalize hfe : pv_sum (S.2.2 0) (kk 0) = f at *
  generalize hne : S.2.2 0 (kk 0) = n at *
  rw [Nat.zero_add] at i2 i4
  refine ⟨hend, i2, ?_⟩
  have hhd : ∀ x, f ≤ x → x < f + n → pv_hd S 0 x = kk 0 := fun x h1 h2 => pv_hd_eq hk (by rw [hfe]; exact h1) (by rw [hfe, hne]; exact h2)
  have hbef : ∀ j, j < f → ¬ key < Ek j := by
    intro j hj
    have hk0 : kk 0 ≠ 0 := fun h0 => by have := hf0 h0; omega
    have := hpos hk0
    have h1 := hso j f hj (by omega)
    have h2 := hfst hk0
    exact Int32.not_lt.mpr (Int32.le_of_lt (Int32.lt_of_lt_of_le h1 h2))
  by_cases hat : i < n ∧ Ek (f + i) = key
  · left
    refine ⟨hat.1, hat.2, ?_, hhd _ (by omega) (by omega)⟩
    have hu : pv_upF Ek key c 0 = f + i + 1 := by
      refine pv_upF_uniq (by omega) (fun j hj => ?_) (fun hlt => ?_)
      · rcases (show j < f + i ∨ j = f + i by omega) with q | q
        · have := hso j (f + i) q (by omega)
          rw [hat.2] at this
          exact Int32.not_lt.mpr (Int32.le_of_lt this)
        · rw [q, hat.2]; exact Int32.lt_irrefl
      · have := hso (f + i) (f + i + 1) (by omega) hlt
        rw [hat.2] at this; exact this
    unfold pv_fd
    rw [hu, if_pos ⟨by omega, by rw [Nat.add_sub_cancel]; exact hat.2⟩, Nat.add_sub_cancel]
  · right
    have hin : ∀ j, f ≤ j → j < f + i → Ek j < key := by
      intro j h1 h2
      have := i3 (j - f) (by omega) (by omega)
      rw [hs (j - f) (by omega), show f + (j - f) = j by omega] at this
      exact Int32.not_le.mp this
    have hge : i < n → key < Ek (f + i) := by
      intro h1
      have := i4 h1
      rw [hs i h1] at this
      exact Int32.lt_of_le_of_ne this (fun e => hat ⟨h1, e.symm⟩)
    have hu : pv_upF Ek key c 0 = f + i := by
      refine pv_upF_uniq (by omega) (fun j hj => ?_) (fun hlt => ?_)
      · by_cases hjf : j < f
        · exact hbef j hjf
        · exact Int32.not_lt.mpr (Int32.le_of_lt (hin j (by omega) hj))
      · by_cases h1 : i < n
        · exact hge h1
        · have : i = n := by omega
          rw [this]; exact hlast (by omega)
    refine ⟨fun q => hat ⟨q.1, by rw [← hs i q.1]; exact q.2⟩, ?_, hu, ?_⟩
    · unfold pv_fd
      rw [hu, if_neg]
      rintro ⟨q1, q2⟩
      by_cases hi0 : i = 0
      · have hk0 : kk 0 ≠ 0 := fun h0 => by have := hf0 h0; omega
        have h1 := hge (by have := hpos hk0; omega)
        rw [hi0, Nat.add_zero] at h1
        exact absurd h1 (Int32.not_lt.mpr (hfst hk0))
      · have := hin (f + i - 1) (by omega) (by omega)
        rw [q2] at this; exact Int32.lt_irrefl this
    · rw [hu]
      by_cases hn0 : n = 0
      · have hk0 : kk 0 = 0 := Classical.byContradiction fun h0 => by have := hpos h0; omega
        have := hf0 hk0
        have hS1 : S.1 = 1 := by
          rcases (show S.1 = 1 ∨ 1 < S.1 by omega) with q | q
          · exact q
          · have := hw.pos w3 hk q; omega
        rw [hS1] at w4
        simp only [Nat.sub_self] at w4
        unfold pv_hd
        rw [w4, hk0]; rfl
      · by_cases hi0 : i = 0
        · by_cases hk0 : kk 0 = 0
          · have := hf0 hk0
            exact hhd _ (by omega) (by omega)
          · have h1 := hge (by omega)
            rw [hi0, Nat.add_zero] at h1
            exact absurd h1 (Int32.not_lt.mpr (hfst hk0))
        · exact hhd _ (by omega) (by omega)
section CG
variable {tr : Nat} {PO : Nat → Prop} {F c : Nat} {H : pv_H} {A : Nat → Nat → Nat} {Lb : cp_L} {S : pv_Sh} {Ek Ev : Nat → Int32} {σ : sw_S} {pth : Nat → Option Nat} {plc : Nat → Int32}
theorem cw_get (hw : pv_wf F S c) (hS : S.1 ≤ 5) (hso : ∀ i j, i < j → j < c → Ek i < Ek j) (hlab : ∀ l, l < S.1 → ∀ k, k < S.2.1 l → S.2.2 l k ≠ 0 → (Lb l k).1 = Ek (pv_fi S.2.2 l k)) (key : Int32) (h : cx tr PO σ H F A Lb S Ek Ev pth plc) :
    ∃ σ' pth' plc', f_X6_valueOf tr key σ = some ((match pv_fd Ek c key with | some p => Ev p | none => 0), σ') ∧ cx tr PO σ' H F A Lb S Ek Ev pth' plc' ∧ pv_sg PO σ σ' := by
  obtain ⟨σ1, pth1, plc1, kk, e1, c1, t1, y1, -⟩ := cw_leafFor hw hS hlab key h
  have hk := y1.1 0 (Nat.le_refl _) hw.2.2.1
  obtain ⟨s, h1, -, h3⟩ := c1.2.1 0 (kk 0) hw.2.2.1 hk
  have hz := hw.2.2.2.2.2.2.2.1 0 (kk 0) hw.2.2.1 hk
  have hs : ∀ j, j < S.2.2 0 (kk 0) → s j = (Ek (pv_sum (S.2.2 0) (kk 0) + j), Ev (pv_sum (S.2.2 0) (kk 0) + j), none) := fun j hj => (h3 j hj).1 rfl
  obtain ⟨a1, a2, a3⟩ := cw_at hw hso y1 (s := s) (fun j hj => by rw [hs j hj])
  refine ⟨σ1, pth1, plc1, ?_, c1, t1⟩
  unfold f_X6_valueOf
  rw [h.1.ob, Option.bind_some, e1, cw_b2]
  rw [Option.bind_some, pv_ob c1.1.1 h1, Option.bind_some, pv_slotOf c1.1.1 h1 (by omega), Option.bind_some, Option.bind_some, pv_hasAt c1.1.1 h1 (by omega) a2, Option.bind_some]
  rcases a3 with ⟨b1, b2, b3, -⟩ | ⟨b1, b3, -, -⟩
  · have q : pv_slotF s key (S.2.2 0 (kk 0)) 0 < S.2.2 0 (kk 0) ∧ (s (pv_slotF s key (S.2.2 0 (kk 0)) 0)).1 = key := ⟨b1, by rw [hs _ b1]; exact b2⟩
    rw [b3, if_pos q, if_neg (by decide : ¬ (1 : Int32) = 0), pv_r2 c1.1.1 h1, Option.bind_some, Option.bind_some, pv_a2 c1.1.1 h1 (by omega), Option.bind_some, hs _ b1]; rfl
  · rw [b3, if_neg b1, if_pos rfl]; rfl
end CG
