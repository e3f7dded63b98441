/-! THE CLASS'S put -/
theorem pv_cn_fi {S : pv_Sh} {c : Nat} (hok : pv_ok S c) : ∀ l, l < S.1 → ∀ k, k < S.2.1 l → nI (pv_fi S.2.2 l k) + pv_cn S.2.2 l k = nI (pv_fi S.2.2 l (k + 1)) := by
  obtain ⟨o1, o2, o3, o4, o5, o6, o7⟩ := hok
  intro l
  induction l with
  | zero => intro _ k _; simp only [pv_fi, pv_cn, pv_sum]; exact nI_add _ _
  | succ l ih =>
    intro hl k hk
    have hm : ∀ m, m ≤ S.2.2 (l + 1) k → nI (pv_fi S.2.2 l (pv_sum (S.2.2 (l + 1)) k)) + pv_it (fun j x => x + pv_cn S.2.2 l (pv_sum (S.2.2 (l + 1)) k + j)) m 0 = nI (pv_fi S.2.2 l (pv_sum (S.2.2 (l + 1)) k + m)) := by
      intro m
      induction m with
      | zero => intro _; simp [pv_it]
      | succ m ihm =>
        intro hm
        have hx := pv_sum_lt (z := S.2.2 (l + 1)) (c := S.2.1 (l + 1)) hk (show m < S.2.2 (l + 1) k by omega)
        rw [o5 l hl] at hx
        have h1 := ihm (by omega)
        have h2 := ih (by omega) _ hx
        simp only [pv_it]
        rw [← Int32.add_assoc, h1, h2]; rfl
    exact hm _ (Nat.le_refl _)
theorem pv_fi_0 (Z : Nat → Nat → Nat) : ∀ l, pv_fi Z l 0 = 0 := by
  intro l
  induction l with
  | zero => rfl
  | succ l ih => simp only [pv_fi, pv_sum]; exact ih
theorem pv_fi_C {S : pv_Sh} {c : Nat} (hok : pv_ok S c) : ∀ l, l < S.1 → pv_fi S.2.2 l (S.2.1 l) = c := by
  obtain ⟨o1, o2, o3, o4, o5, o6, o7⟩ := hok
  intro l
  induction l with
  | zero => intro _; exact o4
  | succ l ih => intro hl; simp only [pv_fi]; rw [o5 l hl]; exact ih (by omega)
theorem pv_wf.ok {F : Nat} {S : pv_Sh} {c : Nat} (h : pv_wf F S c) (hc : c ≤ 61) : pv_ok S c := (h.x 0 0).ok hc
theorem pv_cn_all {F : Nat} {S : pv_Sh} {c : Nat} (h : pv_wf F S c) (hc : c ≤ 61) : pv_cn S.2.2 (S.1 - 1) 0 = nI c := by
  have h0 : 0 < S.1 := h.2.2.1
  have hC : S.2.1 (S.1 - 1) = 1 := h.2.2.2.1
  have h1 := pv_cn_fi (h.ok hc) (S.1 - 1) (by omega) 0 (by omega)
  have h2 := pv_fi_C (h.ok hc) (S.1 - 1) (by omega)
  rw [hC] at h2
  rw [pv_fi_0, Nat.zero_add, h2] at h1
  rw [← h1]; simp [nI_0]
/-- the class's tree stands for S, Ek, Ev -/
def cz (tr : Nat) (PO : Nat → Prop) (σ : sw_S) (F : Nat) (S : pv_Sh) (Ek Ev : Nat → Int32) : Prop := ∃ H A Lb pth plc, cx tr PO σ H F A Lb S Ek Ev pth plc ∧ cp_la S Ek Ev Lb
theorem cp_la.lab {F : Nat} {S : pv_Sh} {c : Nat} {Ek Ev : Nat → Int32} {Lb : cp_L} (h : cp_la S Ek Ev Lb) (hw : pv_wf F S c) (hc : c ≤ 61) : ∀ l, l < S.1 → ∀ k, k < S.2.1 l → (S.2.2 l k ≠ 0 → (Lb l k).1 = Ek (pv_fi S.2.2 l k)) ∧ (Lb l k).2.1 = pv_dg S.2.2 Ek Ev l k ∧ (Lb l k).2.2 = pv_cn S.2.2 l k := cp_lab (hw.ok hc) h
/-- what lies at the leaves from c on matters not -/
theorem cz.cg {tr : Nat} {PO : Nat → Prop} {σ : sw_S} {F : Nat} {S : pv_Sh} {Ek Ev Ek' Ev' : Nat → Int32} {c : Nat} (h : cz tr PO σ F S Ek Ev) (hw : pv_wf F S c) (he : ∀ p, p < c → Ek' p = Ek p ∧ Ev' p = Ev p) : cz tr PO σ F S Ek' Ev' := by
  obtain ⟨H, A, Lb, pth, plc, h1, h2⟩ := h
  have hx : ∀ l k, l = 0 → l < S.1 → k < S.2.1 l → ∀ j, j < S.2.2 l k → Ek' (pv_sum (S.2.2 l) k + j) = Ek (pv_sum (S.2.2 l) k + j) ∧ Ev' (pv_sum (S.2.2 l) k + j) = Ev (pv_sum (S.2.2 l) k + j) := by
    intro l k hl0 hl hk j hj
    subst hl0
    have := pv_sum_lt (z := S.2.2 0) hk hj
    rw [hw.2.2.2.2.1] at this
    exact he _ this
  refine ⟨H, A, Lb, pth, plc, ⟨h1.1, fun l k hl hk => (h1.2.1 l k hl hk).mv rfl (fun h0 => hx l k h0 hl hk) (fun _ _ _ => rfl), h1.2.2⟩, fun l k hl hk => ?_⟩
  have := h2 l k hl hk
  unfold cp_lc at this ⊢
  rw [cp_w_mv (Ek := Ek) (Ev := Ev) (Lb := Lb) (f := pv_sum (S.2.2 l) k) (fun h0 => hx l k h0 hl hk) (fun _ _ _ => rfl)]
  exact this
section CQ
variable {tr : Nat} {PO : Nat → Prop} {F c : Nat} {S : pv_Sh} {Ek Ev : Nat → Int32} {σ : sw_S} {key : Int32}
theorem cz_get (h : cz tr PO σ F S Ek Ev) (hw : pv_wf F S c) (hc : c ≤ 60) (hso : ∀ i j, i < j → j < c → Ek i < Ek j) :
    ∃ σ', f_X6_valueOf tr key σ = some ((match pv_fd Ek c key with | some p => Ev p | none => 0), σ') ∧ cz tr PO σ' F S Ek Ev ∧ pv_sg PO σ σ' := by
  obtain ⟨H, A, Lb, pth, plc, h1, h2⟩ := h
  have hlab := h2.lab hw (by omega)
  obtain ⟨σ', pth', plc', e, c1, t⟩ := cw_get hw ((hw.x 0 0).cnt (by omega)).1 hso (fun l hl k hk => (hlab l hl k hk).1) key h1
  exact ⟨σ', e, ⟨H, A, Lb, pth', plc', c1, h2⟩, t⟩
theorem cz_put_full {v : Int32} (h : cz tr PO σ F S Ek Ev) (hw : pv_wf F S 60) (hso : ∀ i j, i < j → j < 60 → Ek i < Ek j) (hf : pv_fd Ek 60 key = none) :
    ∃ σ', f_X6_store tr key v σ = some (0, σ') ∧ cz tr PO σ' F S Ek Ev ∧ pv_sg PO σ σ' := by
  obtain ⟨H, A, Lb, pth, plc, h1, h2⟩ := h
  have hlab := h2.lab hw (by omega)
  obtain ⟨σ1, pth1, plc1, kk, e1, c1, t1, y1, -⟩ := cw_leafFor hw ((hw.x 0 0).cnt (by omega)).1 (fun l hl k hk => (hlab l hl k hk).1) key h1
  have hk := y1.1 0 (Nat.le_refl _) hw.2.2.1
  obtain ⟨s, g1, -, g3⟩ := c1.2.1 0 (kk 0) hw.2.2.1 hk
  have hz := hw.2.2.2.2.2.2.2.1 0 (kk 0) hw.2.2.1 hk
  have hF := hw.2.1
  obtain ⟨a1, a2, a3⟩ := cw_at hw hso y1 (s := s) (fun j hj => by rw [(g3 j hj).1 rfl])
  rcases a3 with ⟨-, -, b3, -⟩ | ⟨b1, -, -, -⟩
  · rw [b3] at hf; cases hf
  refine ⟨σ1, ?_, ⟨H, A, Lb, pth1, plc1, c1, h2⟩, t1⟩
  have h0 : 0 < S.1 := hw.2.2.1
  have hC : S.2.1 (S.1 - 1) = 1 := hw.2.2.2.1
  obtain ⟨s', r1, -⟩ := c1.2.1 (S.1 - 1) 0 (by omega) (by omega)
  have hcnt : (Lb (S.1 - 1) 0).2.2 = nI 60 := by rw [(hlab (S.1 - 1) (by omega) 0 (by omega)).2.2, pv_cn_all hw (by omega)]
  unfold f_X6_store
  rw [h1.1.ob, Option.bind_some, e1, cw_b2, Option.bind_some, pv_ob c1.1.1 g1, Option.bind_some, pv_slotOf c1.1.1 g1 (by omega), Option.bind_some, Option.bind_some, pv_hasAt c1.1.1 g1 (by omega) a2, Option.bind_some, if_neg b1, if_pos rfl, c1.1.r4, Option.bind_some, Option.bind_some, pv_g6 c1.1.1 r1, Option.bind_some, hcnt, if_neg (by decide)]
theorem cz_put_old {v : Int32} {p : Nat} (h : cz tr PO σ F S Ek Ev) (hw : pv_wf F S c) (hc : c ≤ 60) (hso : ∀ i j, i < j → j < c → Ek i < Ek j) (hf : pv_fd Ek c key = some p) :
    ∃ σ', f_X6_store tr key v σ = some (2, σ') ∧ cz tr PO σ' F S Ek (upd Ev p v) ∧ pv_sg PO σ σ' := by
  obtain ⟨H, A, Lb, pth, plc, h1, h2⟩ := h
  have hlab := h2.lab hw (by omega)
  obtain ⟨σ1, pth1, plc1, kk, e1, c1, t1, y1, p1⟩ := cw_leafFor hw ((hw.x 0 0).cnt (by omega)).1 (fun l hl k hk => (hlab l hl k hk).1) key h1
  have h0 : 0 < S.1 := hw.2.2.1
  have hk := y1.1 0 (Nat.le_refl _) h0
  obtain ⟨s, g1, g4, g3⟩ := c1.2.1 0 (kk 0) h0 hk
  have hz := hw.2.2.2.2.2.2.2.1 0 (kk 0) h0 hk
  have hF := hw.2.1
  obtain ⟨a1, a2, a3⟩ := cw_at hw hso y1 (s := s) (fun j hj => by rw [(g3 j hj).1 rfl])
  replace a3 := a3.resolve_right (fun r => by rw [r.2.1] at hf; cases hf)
  obtain ⟨b1, b2, b3, -⟩ := a3
  have q : pv_slotF s key (S.2.2 0 (kk 0)) 0 < S.2.2 0 (kk 0) ∧ (s (pv_slotF s key (S.2.2 0 (kk 0)) 0)).1 = key := ⟨b1, by rw [(g3 _ b1).1 rfl]; exact b2⟩
  obtain ⟨r2, σ2, H2, e2, n2, t2, o2, c2⟩ := cp_vleaf v c1.1.1 (c1.2.1 0 (kk 0) h0 hk) (by omega) b1
  obtain ⟨d2, t2'⟩ := c1.1.st n2 t2
  rw [b3] at hf
  cases hf
  have hx : ∀ k', k' < S.2.1 0 → k' ≠ kk 0 → ∀ j, j < S.2.2 0 k' → upd Ev (pv_sum (S.2.2 0) (kk 0) + pv_slotF s key (S.2.2 0 (kk 0)) 0) v (pv_sum (S.2.2 0) k' + j) = Ev (pv_sum (S.2.2 0) k' + j) := by
    intro k' hk' hne j hj
    simp only [upd]
    rw [if_neg]
    rcases Nat.lt_or_gt_of_ne hne with r | r
    · have := pv_bef (z := S.2.2 0) r hj (Nat.le_refl _); omega
    · have := pv_beh (z := S.2.2 0) r (k := pv_sum (S.2.2 0) (kk 0) + pv_slotF s key (S.2.2 0 (kk 0)) 0) (by omega); omega
  have hcp : cp H2 A Lb S Ek (upd Ev (pv_sum (S.2.2 0) (kk 0) + pv_slotF s key (S.2.2 0 (kk 0)) 0) v) := by
    refine ⟨fun l' k' hl' hk' => ?_, c1.2.2⟩
    by_cases r : l' = 0 ∧ k' = kk 0
    · obtain ⟨rfl, rfl⟩ := r; exact c2
    · refine (c1.2.1 l' k' hl' hk').mv (o2 _ (c1.2.ne hl' hk' h0 hk r)) (fun r0 j hj => ⟨rfl, ?_⟩) (fun _ _ _ => rfl)
      subst r0
      exact hx k' hk' (fun r' => r ⟨rfl, r'⟩) j hj
  have hll : cp_ll S Ek (upd Ev (pv_sum (S.2.2 0) (kk 0) + pv_slotF s key (S.2.2 0 (kk 0)) 0) v) Lb kk 0 := by
    intro l' k' hl' hk' hne
    have := h2 l' k' hl' hk'
    unfold cp_lc at this ⊢
    rw [cp_w_mv (Ek := Ek) (Ev := Ev) (Lb := Lb) (f := pv_sum (S.2.2 l') k') (fun r0 j hj => ⟨rfl, by subst r0; exact hx k' hk' (fun r' => hne ⟨Nat.le_refl _, r'⟩) j hj⟩) (fun _ _ _ => rfl)]
    exact this
  obtain ⟨σ3, H3, A3, Lb3, e3, c3, t3, l3⟩ := cs_split (c := c) (by omega) ⟨d2, hcp⟩ (hw.x 0 (kk 0)) ⟨y1.1, y1.2.1⟩ p1 hll
  have es : pv_spl F S.1 S 0 (kk 0) = S := by
    obtain ⟨m, hm⟩ : ∃ m, S.1 = m + 1 := ⟨S.1 - 1, by omega⟩
    rw [hm, pv_spl, if_pos hz]
  rw [es] at c3 l3
  refine ⟨σ3, ?_, ⟨H3, A3, Lb3, pth1, plc1, c3, l3⟩, (t1.tr t2').tr t3⟩
  unfold f_X6_store
  rw [h1.1.ob, Option.bind_some, e1, cw_b2, Option.bind_some, pv_ob c1.1.1 g1, Option.bind_some, pv_slotOf c1.1.1 g1 (by omega), Option.bind_some, Option.bind_some, pv_hasAt c1.1.1 g1 (by omega) a2, Option.bind_some, if_pos q, if_neg (by decide : ¬ (1 : Int32) = 0)]
  unfold b_X6_store_41
  rw [if_neg (by decide : ¬ (1 : Int32) = 0)]
  unfold b_X6_store_60
  rw [r2, Option.bind_some, Option.bind_some, e2, Option.bind_some, d2.ob, Option.bind_some, e3, Option.bind_some, if_neg (by decide : ¬ (1 : Int32) = 0)]
  rfl
theorem cz_put_new {v : Int32} (h : cz tr PO σ F S Ek Ev) (hw : pv_wf F S c) (hc : c < 60) (hso : ∀ i j, i < j → j < c → Ek i < Ek j) (hf : pv_fd Ek c key = none) :
    ∃ σ', f_X6_store tr key v σ = some (1, σ') ∧ cz tr PO σ' F (pv_put F S (pv_hd S 0 (pv_upF Ek key c 0 - 1))) (pv_ei Ek (pv_upF Ek key c 0) key) (pv_ei Ev (pv_upF Ek key c 0) v) ∧ pv_sg PO σ σ' := by
  obtain ⟨H, A, Lb, pth, plc, h1, h2⟩ := h
  have hlab := h2.lab hw (by omega)
  obtain ⟨σ1, pth1, plc1, kk, e1, c1, t1, y1, p1⟩ := cw_leafFor hw ((hw.x 0 0).cnt (by omega)).1 (fun l hl k hk => (hlab l hl k hk).1) key h1
  have h0 : 0 < S.1 := hw.2.2.1
  have hk := y1.1 0 (Nat.le_refl _) h0
  obtain ⟨s, g1, g4, g3⟩ := c1.2.1 0 (kk 0) h0 hk
  have hz := hw.2.2.2.2.2.2.2.1 0 (kk 0) h0 hk
  have hF := hw.2.1
  have hC : S.2.1 (S.1 - 1) = 1 := hw.2.2.2.1
  obtain ⟨a1, a2, a3⟩ := cw_at hw hso y1 (s := s) (fun j hj => by rw [(g3 j hj).1 rfl])
  rcases a3 with ⟨-, -, b3, -⟩ | ⟨b1, -, b4, b5⟩
  · rw [b3] at hf; cases hf
  rw [b5, b4]
  generalize hq0 : pv_slotF s key (S.2.2 0 (kk 0)) 0 = q0 at *
  obtain ⟨σ2, e2, r2, σ3, e3, r3, σ4, H4, e4, n4, t4, o4, c4⟩ := cp_oleaf key v c1.1.1 (c1.2.1 0 (kk 0) h0 hk) (by omega) a2
  obtain ⟨d4, t4'⟩ := c1.1.st n4 t4
  have hS1 : (pv_set S 0 (kk 0) (S.2.2 0 (kk 0) + 1)).2.2 0 = va_up (S.2.2 0) (kk 0) (S.2.2 0 (kk 0) + 1) := by simp only [pv_set, va_up_self]
  have hSo : ∀ i, i ≠ 0 → (pv_set S 0 (kk 0) (S.2.2 0 (kk 0) + 1)).2.2 i = S.2.2 i := fun i hi => va_up_ne _ _ hi
  have hei : ∀ (E : Nat → Int32) (x : Int32) k', k' < S.2.1 0 → k' ≠ kk 0 → ∀ j, j < S.2.2 0 k' → pv_ei E (pv_sum (S.2.2 0) (kk 0) + q0) x (pv_sum ((pv_set S 0 (kk 0) (S.2.2 0 (kk 0) + 1)).2.2 0) k' + j) = E (pv_sum (S.2.2 0) k' + j) := by
    intro E x k' hk' hne j hj
    rw [hS1]
    unfold pv_ei
    rcases Nat.lt_or_gt_of_ne hne with r | r
    · have := pv_bef (z := S.2.2 0) r hj (Nat.le_refl _)
      rw [pv_sum_up_le (by omega), if_pos (by omega)]
    · have h5 := pv_beh (z := S.2.2 0) (k := pv_sum (S.2.2 0) (kk 0) + S.2.2 0 (kk 0) - 1) r
      have h6 := pv_sum_mono (S.2.2 0) (kk 0 + 1) (k' - (kk 0 + 1))
      rw [show kk 0 + 1 + (k' - (kk 0 + 1)) = k' by omega] at h6
      simp only [pv_sum] at h6
      have h7 := pv_sum_up (z := S.2.2 0) (k := kk 0) (x := S.2.2 0 (kk 0) + 1) (c := k') r
      have h8 : pv_sum (va_up (S.2.2 0) (kk 0) (S.2.2 0 (kk 0) + 1)) k' = pv_sum (S.2.2 0) k' + 1 := by omega
      rw [h8, if_neg (by omega), if_neg (by omega)]
      congr 1; omega
  have hcp : cp H4 A Lb (pv_set S 0 (kk 0) (S.2.2 0 (kk 0) + 1)) (pv_ei Ek (pv_sum (S.2.2 0) (kk 0) + q0) key) (pv_ei Ev (pv_sum (S.2.2 0) (kk 0) + q0) v) := by
    refine ⟨fun l' k' hl' hk' => ?_, c1.2.2⟩
    have hl'' : l' < S.1 := hl'
    have hk'' : k' < S.2.1 l' := hk'
    by_cases r : l' = 0 ∧ k' = kk 0
    · obtain ⟨rfl, rfl⟩ := r
      rw [hS1, va_up_self, pv_sum_up_le (Nat.le_refl _)]; exact c4
    · by_cases r0 : l' = 0
      · subst r0
        have rk : k' ≠ kk 0 := fun r' => r ⟨rfl, r'⟩
        have := (c1.2.1 0 k' hl'' hk'').mv (H' := H4) (a' := A 0 k') (A' := A) (Ek' := pv_ei Ek (pv_sum (S.2.2 0) (kk 0) + q0) key) (Ev' := pv_ei Ev (pv_sum (S.2.2 0) (kk 0) + q0) v) (f' := pv_sum ((pv_set S 0 (kk 0) (S.2.2 0 (kk 0) + 1)).2.2 0) k') (o4 _ (c1.2.ne hl'' hk'' h0 hk r)) (fun _ j hj => ⟨hei Ek key k' hk'' rk j hj, hei Ev v k' hk'' rk j hj⟩) (fun r0 => absurd r0 (by omega))
        rw [show (pv_set S 0 (kk 0) (S.2.2 0 (kk 0) + 1)).2.2 0 k' = S.2.2 0 k' by rw [hS1, va_up_ne _ _ rk]]
        exact this
      · rw [hSo l' r0]
        exact (c1.2.1 l' k' hl'' hk'').mv (o4 _ (c1.2.ne hl'' hk'' h0 hk r)) (fun r0' => absurd r0' r0) (fun _ _ _ => rfl)
  have hll : cp_ll (pv_set S 0 (kk 0) (S.2.2 0 (kk 0) + 1)) (pv_ei Ek (pv_sum (S.2.2 0) (kk 0) + q0) key) (pv_ei Ev (pv_sum (S.2.2 0) (kk 0) + q0) v) Lb kk 0 := by
    intro l' k' hl' hk' hne
    have hl'' : l' < S.1 := hl'
    have hk'' : k' < S.2.1 l' := hk'
    have := h2 l' k' hl'' hk''
    unfold cp_lc at this ⊢
    by_cases r0 : l' = 0
    · subst r0
      have rk : k' ≠ kk 0 := fun r' => hne ⟨Nat.le_refl _, r'⟩
      rw [show (pv_set S 0 (kk 0) (S.2.2 0 (kk 0) + 1)).2.2 0 k' = S.2.2 0 k' by rw [hS1, va_up_ne _ _ rk]]
      rw [cp_w_mv (Ek := Ek) (Ev := Ev) (Lb := Lb) (f := pv_sum (S.2.2 0) k') (fun _ j hj => ⟨hei Ek key k' hk'' rk j hj, hei Ev v k' hk'' rk j hj⟩) (fun r0 => absurd r0 (by omega))]
      exact this
    · rw [hSo l' r0, cp_w_mv (Ek := Ek) (Ev := Ev) (Lb := Lb) (f := pv_sum (S.2.2 l') k') (fun r0' => absurd r0' r0) (fun _ _ _ => rfl)]
      exact this
  obtain ⟨σ5, H5, A5, Lb5, e5, c5, t5, l5⟩ := cs_split (S := pv_set S 0 (kk 0) (S.2.2 0 (kk 0) + 1)) (c := c + 1) (by omega) ⟨d4, hcp⟩ (pv_wfx.lv0 hw hk) ⟨y1.1, fun i q q2 => by rw [hSo _ (by omega)]; exact y1.2.1 i q q2⟩ ⟨p1.1, fun i q q2 => by rw [hSo _ (by omega)]; exact p1.2 i q q2⟩ hll
  refine ⟨σ5, ?_, ⟨H5, A5, Lb5, pth1, plc1, c5, l5⟩, (t1.tr t4').tr t5⟩
  obtain ⟨s', r1, -⟩ := c1.2.1 (S.1 - 1) 0 (by omega) (by omega)
  have hcnt : (Lb (S.1 - 1) 0).2.2 = nI c := by rw [(hlab (S.1 - 1) (by omega) 0 (by omega)).2.2, pv_cn_all hw (by omega)]
  unfold f_X6_store
  rw [h1.1.ob, Option.bind_some, e1, cw_b2, Option.bind_some, pv_ob c1.1.1 g1, Option.bind_some, pv_slotOf c1.1.1 g1 (by omega), Option.bind_some, Option.bind_some, hq0, pv_hasAt c1.1.1 g1 (by omega) a2, Option.bind_some, if_neg b1, if_pos rfl, c1.1.r4, Option.bind_some, Option.bind_some, pv_g6 c1.1.1 r1, Option.bind_some, hcnt, if_pos (show nI c < 60 from nI_lt hc (by decide))]
  unfold b_X6_store_41
  rw [if_pos rfl, pv_ob c1.1.1 g1, Option.bind_some, e2, Option.bind_some, r2, Option.bind_some, Option.bind_some, e3, Option.bind_some]
  unfold b_X6_store_60
  rw [r3, Option.bind_some, Option.bind_some, e4, Option.bind_some, d4.ob, Option.bind_some, e5, Option.bind_some, if_pos rfl]
  rfl
end CQ
