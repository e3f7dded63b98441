/-! COORDINATES under a renewal and under a split -/
def pv_gi {α : Type} (f : Nat → α) (i : Nat) (x : α) : Nat → α := fun k => if k < i then f k else if k = i then x else f (k - 1)
def pv_gd {α : Type} (f : Nat → α) (i : Nat) : Nat → α := fun k => if k < i then f k else f (k + 1)
theorem pv_gi_lt {α : Type} {f : Nat → α} {i k : Nat} {x : α} (h : k < i) : pv_gi f i x k = f k := by unfold pv_gi; rw [if_pos h]
theorem pv_gi_eq {α : Type} {f : Nat → α} {i : Nat} {x : α} : pv_gi f i x i = x := by unfold pv_gi; rw [if_neg (by omega), if_pos rfl]
theorem pv_gi_gt {α : Type} {f : Nat → α} {i k : Nat} {x : α} (h : i ≤ k) : pv_gi f i x (k + 1) = f k := by unfold pv_gi; rw [if_neg (by omega), if_neg (by omega)]; rfl
theorem pv_gd_lt {α : Type} {f : Nat → α} {i k : Nat} (h : k < i) : pv_gd f i k = f k := by unfold pv_gd; rw [if_pos h]
theorem pv_gd_ge {α : Type} {f : Nat → α} {i k : Nat} (h : i ≤ k) : pv_gd f i k = f (k + 1) := by unfold pv_gd; rw [if_neg (by omega)]
def cp_u (Lb : cp_L) (l k : Nat) (w : Int32 × Int32 × Int32) : cp_L := va_up Lb l (va_up (Lb l) k w)
theorem cp_u_self {Lb : cp_L} {l k : Nat} {w : Int32 × Int32 × Int32} : cp_u Lb l k w l k = w := by unfold cp_u; rw [va_up_self, va_up_self]
theorem cp_u_ne {Lb : cp_L} {l k l' k' : Nat} {w : Int32 × Int32 × Int32} (h : ¬ (l' = l ∧ k' = k)) : cp_u Lb l k w l' k' = Lb l' k' := by
  unfold cp_u
  by_cases hl : l' = l
  · subst hl; rw [va_up_self, va_up_ne _ _ (fun q => h ⟨rfl, q⟩)]
  · rw [va_up_ne _ _ hl]
theorem cp_w_mv {Ek Ev Ek' Ev' : Nat → Int32} {Lb Lb' : cp_L} {l f f' n : Nat} {le : Int32} (he : l = 0 → ∀ j, j < n → Ek' (f' + j) = Ek (f + j) ∧ Ev' (f' + j) = Ev (f + j)) (hL : 0 < l → ∀ j, j < n → Lb' (l - 1) (f' + j) = Lb (l - 1) (f + j)) : cp_w Ek' Ev' Lb' l f' n le = cp_w Ek Ev Lb l f n le := by
  cases l with
  | zero =>
    simp only [cp_w]
    refine Prod.ext ?_ (Prod.ext ?_ rfl)
    · simp only
      by_cases hn : n = 0
      · rw [if_pos hn, if_pos hn]
      · rw [if_neg hn, if_neg hn]; exact (he rfl 0 (by omega)).1
    · exact pv_it_congr (fun j hj y => by rw [(he rfl j hj).1, (he rfl j hj).2])
  | succ l =>
    have hL' := hL (by omega)
    simp only [Nat.add_sub_cancel] at hL'
    simp only [cp_w]
    refine Prod.ext ?_ (Prod.ext ?_ ?_)
    · simp only
      by_cases hn : n = 0
      · rw [if_pos hn, if_pos hn]
      · rw [if_neg hn, if_neg hn]; exact congrArg (·.1) (hL' 0 (by omega))
    · exact pv_it_congr (fun j hj y => by rw [hL' j hj])
    · exact pv_it_congr (fun j hj y => by rw [hL' j hj])
theorem cp_w_fix {Ek Ev : Nat → Int32} {Lb : cp_L} {l f n : Nat} {le : Int32} : cp_w Ek Ev Lb l f n (cp_w Ek Ev Lb l f n le).1 = cp_w Ek Ev Lb l f n le := by
  cases l <;> simp only [cp_w] <;> by_cases hn : n = 0 <;> simp [hn]
/-- children lie in the tree -/
def cp_in (S : pv_Sh) (l k : Nat) : Prop := 0 < l → ∀ j, j < S.2.2 l k → pv_sum (S.2.2 l) k + j < S.2.1 (l - 1)
theorem cp.kn {H : pv_H} {A : Nat → Nat → Nat} {Lb : cp_L} {S : pv_Sh} {Ek Ev : Nat → Int32} (h : cp H A Lb S Ek Ev) {l k : Nat} (hl : l < S.1) (hi : cp_in S l k) : cp_k H A l (pv_sum (S.2.2 l) k) (S.2.2 l k) := fun h0 j hj => h.kid (by omega) (hi h0 j hj)
theorem cp.ne {H : pv_H} {A : Nat → Nat → Nat} {Lb : cp_L} {S : pv_Sh} {Ek Ev : Nat → Int32} (h : cp H A Lb S Ek Ev) {l k l' k' : Nat} (hl : l < S.1) (hk : k < S.2.1 l) (hl' : l' < S.1) (hk' : k' < S.2.1 l') (hn : ¬ (l = l' ∧ k = k')) : A l k ≠ A l' k' := fun e => hn (h.2 l k l' k' hl hk hl' hk' e)
section CR
variable {tr : Nat} {PO : Nat → Prop} {F : Nat} {H : pv_H} {A : Nat → Nat → Nat} {Lb : cp_L} {S : pv_Sh} {Ek Ev : Nat → Int32} {σ : sw_S} {pth : Nat → Option Nat} {plc : Nat → Int32}
theorem cx_renew {l k : Nat} (h : cx tr PO σ H F A Lb S Ek Ev pth plc) (hl : l < S.1) (hk : k < S.2.1 l) (hn : S.2.2 l k ≤ F + 1) (hi : cp_in S l k) :
    ∃ σ' H', f_X1_renew (A l k) σ = some σ' ∧ cx tr PO σ' H' F A (cp_u Lb l k (cp_w Ek Ev Lb l (pv_sum (S.2.2 l) k) (S.2.2 l k) (Lb l k).1)) S Ek Ev pth plc ∧ pv_sg PO σ σ' := by
  obtain ⟨σ', H', e, n1, t1, o1, c1⟩ := cp_renew (Lb := Lb) h.1.1 (h.2.1 l k hl hk) hn (fun h0 j hj => ⟨h.2.kid (by omega) (hi h0 j hj), h.2.ne (by omega) (hi h0 j hj) hl hk (by omega), (h.2.1 (l - 1) _ (by omega) (hi h0 j hj)).lb⟩)
  obtain ⟨c2, t2⟩ := h.1.st n1 t1
  refine ⟨σ', H', e, ⟨c2, fun l' k' hl' hk' => ?_, h.2.2⟩, t2⟩
  by_cases hq : l' = l ∧ k' = k
  · obtain ⟨rfl, rfl⟩ := hq
    rw [cp_u_self]; exact c1
  · rw [cp_u_ne hq]
    exact (h.2.1 l' k' hl' hk').mv (o1 _ (h.2.ne hl' hk' hl hk hq)) (fun _ _ _ => ⟨rfl, rfl⟩) (fun _ _ _ => rfl)
end CR
theorem cp_lc_renew {Lb : cp_L} {S : pv_Sh} {Ek Ev : Nat → Int32} {l k : Nat} : cp_lc S Ek Ev (cp_u Lb l k (cp_w Ek Ev Lb l (pv_sum (S.2.2 l) k) (S.2.2 l k) (Lb l k).1)) l k := by
  unfold cp_lc
  rw [cp_u_self]
  rw [cp_w_mv (Lb := Lb) (f := pv_sum (S.2.2 l) k) (fun _ _ _ => ⟨rfl, rfl⟩) (fun h0 j hj => cp_u_ne (by omega)), cp_w_fix]
theorem cp_lc_keep {Lb : cp_L} {S : pv_Sh} {Ek Ev : Nat → Int32} {l k l' k' : Nat} {w : Int32 × Int32 × Int32} (h : cp_lc S Ek Ev Lb l' k') (h1 : ¬ (l' = l ∧ k' = k)) (h2 : l' = l + 1 → ∀ j, j < S.2.2 l' k' → pv_sum (S.2.2 l') k' + j ≠ k) : cp_lc S Ek Ev (cp_u Lb l k w) l' k' := by
  unfold cp_lc
  rw [cp_u_ne h1, cp_w_mv (Lb := Lb) (f := pv_sum (S.2.2 l') k') (fun _ _ _ => ⟨rfl, rfl⟩) (fun h0 j hj => cp_u_ne (fun q => h2 (by omega) j hj q.2))]
  exact h
/-- the shape after a split below the root -/
abbrev pv_sp2 (F : Nat) (S : pv_Sh) (l k up : Nat) : pv_Sh := pv_set (pv_sp1 F S l k) (l + 1) up (S.2.2 (l + 1) up + 1)
section CS
variable {F : Nat} {S : pv_Sh} {l k up : Nat}
theorem sp2_C (l' : Nat) : (pv_sp2 F S l k up).2.1 l' = if l' = l then S.2.1 l + 1 else S.2.1 l' := by
  show va_up S.2.1 l (S.2.1 l + 1) l' = _
  by_cases h : l' = l
  · subst h; rw [va_up_self, if_pos rfl]
  · rw [va_up_ne _ _ h, if_neg h]
theorem sp2_Zl : (pv_sp2 F S l k up).2.2 l = pv_gi (va_up (S.2.2 l) k ((F + 2) / 2)) (k + 1) (F + 1 - (F + 2) / 2) := by
  show va_up (va_up S.2.2 l _) (l + 1) _ l = _
  rw [va_up_ne _ _ (by omega), va_up_self]; rfl
theorem sp2_Zu : (pv_sp2 F S l k up).2.2 (l + 1) = va_up (S.2.2 (l + 1)) up (S.2.2 (l + 1) up + 1) := by
  show va_up (va_up S.2.2 l _) (l + 1) _ (l + 1) = _
  rw [va_up_self]
  show va_up (va_up S.2.2 l _ (l + 1)) up _ = _
  rw [va_up_ne _ _ (by omega)]
theorem sp2_Zo {l' : Nat} (h1 : l' ≠ l) (h2 : l' ≠ l + 1) : (pv_sp2 F S l k up).2.2 l' = S.2.2 l' := by
  show va_up (va_up S.2.2 l _) (l + 1) _ l' = _
  rw [va_up_ne _ _ h2, va_up_ne _ _ h1]
theorem sp2_s0 {j : Nat} (hj : j ≤ k) : pv_sum ((pv_sp2 F S l k up).2.2 l) j = pv_sum (S.2.2 l) j := by
  rw [sp2_Zl]
  exact (pv_sum_zi_le (by omega)).trans (pv_sum_up_le hj)
theorem sp2_s1 : pv_sum ((pv_sp2 F S l k up).2.2 l) (k + 1) = pv_sum (S.2.2 l) k + (F + 2) / 2 := by
  rw [sp2_Zl]
  refine (pv_sum_zi_le (by omega)).trans ?_
  simp only [pv_sum]
  rw [pv_sum_up_le (Nat.le_refl _), va_up_self]
theorem sp2_s2 {j : Nat} (hz : S.2.2 l k = F + 1) (hF : 3 ≤ F) (hj : k + 1 ≤ j) : pv_sum ((pv_sp2 F S l k up).2.2 l) (j + 1) = pv_sum (S.2.2 l) j := by
  rw [sp2_Zl]
  have h1 : pv_sum (pv_gi (va_up (S.2.2 l) k ((F + 2) / 2)) (k + 1) (F + 1 - (F + 2) / 2)) (j + 1) = _ := pv_sum_zi (z := va_up (S.2.2 l) k ((F + 2) / 2)) (i := k + 1) (x := F + 1 - (F + 2) / 2) (c := j) hj
  rw [h1]
  have := pv_sum_up (z := S.2.2 l) (k := k) (x := (F + 2) / 2) (c := j) (by omega)
  omega
theorem sp2_u0 {j : Nat} (hj : j ≤ up) : pv_sum ((pv_sp2 F S l k up).2.2 (l + 1)) j = pv_sum (S.2.2 (l + 1)) j := by
  rw [sp2_Zu]; exact pv_sum_up_le hj
theorem sp2_u1 {j : Nat} (hj : up < j) : pv_sum ((pv_sp2 F S l k up).2.2 (l + 1)) j = pv_sum (S.2.2 (l + 1)) j + 1 := by
  rw [sp2_Zu]
  have := pv_sum_up (z := S.2.2 (l + 1)) (k := up) (x := S.2.2 (l + 1) up + 1) hj
  omega
/-- index x of level l lies before, or behind, what up has -/
theorem pv_bef {z : Nat → Nat} {j up x k : Nat} (hj : j < up) (hx : x < z j) (hk : pv_sum z up ≤ k) : pv_sum z j + x < k := by
  have := pv_sum_lt (z := z) (c := up) hj hx; omega
theorem pv_beh {z : Nat → Nat} {j up k : Nat} (hj : up < j) (hk : k < pv_sum z up + z up) : k < pv_sum z j := by
  have := pv_sum_mono z (up + 1) (j - (up + 1))
  rw [show up + 1 + (j - (up + 1)) = j by omega] at this
  simp only [pv_sum] at this; omega
theorem cp_split {H H' : pv_H} {A : Nat → Nat → Nat} {Lb : cp_L} {Ek Ev : Nat → Int32} {b0 : Nat} {w1 w2 : Int32 × Int32 × Int32} (h : cp H A Lb S Ek Ev) (hl : l + 1 < S.1) (hk : k < S.2.1 l) (hz : S.2.2 l k = F + 1) (hF : 3 ≤ F) (hup : up < S.2.1 (l + 1)) (h1 : pv_sum (S.2.2 (l + 1)) up ≤ k) (h2 : k < pv_sum (S.2.2 (l + 1)) up + S.2.2 (l + 1) up) (hb : ∀ l' k', l' < S.1 → k' < S.2.1 l' → A l' k' ≠ b0)
    (ha : cp_n H' (A l k) A Ek Ev l (pv_sum (S.2.2 l) k) ((F + 2) / 2) w1) (hb' : cp_n H' b0 A Ek Ev l (pv_sum (S.2.2 l) k + (F + 2) / 2) (F + 1 - (F + 2) / 2) w2) (hp : cp_n H' (A (l + 1) up) (va_up A l (pv_gi (A l) (k + 1) b0)) Ek Ev (l + 1) (pv_sum (S.2.2 (l + 1)) up) (S.2.2 (l + 1) up + 1) (Lb (l + 1) up)) (ho : ∀ y, y ≠ A l k → y ≠ b0 → y ≠ A (l + 1) up → H' y = H y) :
    cp H' (va_up A l (pv_gi (A l) (k + 1) b0)) (va_up Lb l (pv_gi (va_up (Lb l) k w1) (k + 1) w2)) (pv_sp2 F S l k up) Ek Ev := by
  have hAo : ∀ l', l' ≠ l → va_up A l (pv_gi (A l) (k + 1) b0) l' = A l' := fun l' hl' => va_up_ne _ _ hl'
  have hAl : va_up A l (pv_gi (A l) (k + 1) b0) l = pv_gi (A l) (k + 1) b0 := va_up_self _ _ _
  have hLo : ∀ l', l' ≠ l → va_up Lb l (pv_gi (va_up (Lb l) k w1) (k + 1) w2) l' = Lb l' := fun l' hl' => va_up_ne _ _ hl'
  have hLl : va_up Lb l (pv_gi (va_up (Lb l) k w1) (k + 1) w2) l = pv_gi (va_up (Lb l) k w1) (k + 1) w2 := va_up_self _ _ _
  have hoo : ∀ l' k', l' < S.1 → k' < S.2.1 l' → ¬ (l' = l ∧ k' = k) → ¬ (l' = l + 1 ∧ k' = up) → H' (A l' k') = H (A l' k') := fun l' k' q1 q2 q3 q4 => ho _ (h.ne q1 q2 (by omega) hk q3) (hb l' k' q1 q2) (h.ne q1 q2 hl hup q4)
  refine ⟨fun l' j hl' hj => ?_, ?_⟩
  · rw [sp2_C] at hj
    have hl'' : l' < S.1 := hl'
    by_cases e1 : l' = l
    · subst e1
      rw [if_pos rfl] at hj
      rw [hAl, hLl]
      rcases (show j < k ∨ j = k ∨ j = k + 1 ∨ ∃ q, j = q + 1 ∧ k + 1 ≤ q by
        rcases Nat.lt_or_ge (k + 1) j with q | q
        · exact Or.inr (Or.inr (Or.inr ⟨j - 1, by omega, by omega⟩))
        · omega) with q | q | q | ⟨q, rfl, hq⟩
      · rw [pv_gi_lt (by omega), pv_gi_lt (by omega), va_up_ne _ _ (by omega), sp2_s0 (by omega), sp2_Zl, pv_gi_lt (by omega), va_up_ne _ _ (by omega)]
        exact (h.1 l' j hl'' (by omega)).mv (hoo l' j hl'' (by omega) (by omega) (by omega)) (fun _ _ _ => ⟨rfl, rfl⟩) (fun h0 _ _ => by rw [hAo _ (by omega)])
      · subst q
        rw [pv_gi_lt (by omega), pv_gi_lt (by omega), va_up_self, sp2_s0 (by omega), sp2_Zl, pv_gi_lt (by omega), va_up_self]
        exact ha.mv rfl (fun _ _ _ => ⟨rfl, rfl⟩) (fun h0 _ _ => by rw [hAo _ (by omega)])
      · subst q
        rw [pv_gi_eq, pv_gi_eq, sp2_s1, sp2_Zl, pv_gi_eq]
        exact hb'.mv rfl (fun _ _ _ => ⟨rfl, rfl⟩) (fun h0 _ _ => by rw [hAo _ (by omega)])
      · rw [pv_gi_gt hq, pv_gi_gt hq, va_up_ne _ _ (by omega), sp2_s2 hz hF hq, sp2_Zl, pv_gi_gt hq, va_up_ne _ _ (by omega)]
        exact (h.1 l' q hl'' (by omega)).mv (hoo l' q hl'' (by omega) (by omega) (by omega)) (fun _ _ _ => ⟨rfl, rfl⟩) (fun h0 _ _ => by rw [hAo _ (by omega)])
    · rw [if_neg e1] at hj
      rw [hAo l' e1, hLo l' e1]
      by_cases e2 : l' = l + 1
      · subst e2
        rcases Nat.lt_trichotomy j up with q | q | q
        · rw [sp2_u0 (by omega), sp2_Zu, va_up_ne _ _ (by omega)]
          refine (h.1 (l + 1) j hl'' hj).mv (hoo _ j hl'' hj (by omega) (by omega)) (fun _ _ _ => ⟨rfl, rfl⟩) (fun _ x hx => ?_)
          have := pv_bef (z := S.2.2 (l + 1)) q hx h1
          simp only [Nat.add_sub_cancel]
          rw [hAl, pv_gi_lt (by omega)]
        · subst q
          rw [sp2_u0 (by omega), sp2_Zu, va_up_self]; exact hp
        · rw [sp2_u1 q, sp2_Zu, va_up_ne _ _ (by omega)]
          refine (h.1 (l + 1) j hl'' hj).mv (hoo _ j hl'' hj (by omega) (by omega)) (fun h0 => absurd h0 (by omega)) (fun _ x hx => ?_)
          have := pv_beh (z := S.2.2 (l + 1)) q h2
          simp only [Nat.add_sub_cancel]
          rw [hAl, show pv_sum (S.2.2 (l + 1)) j + 1 + x = pv_sum (S.2.2 (l + 1)) j + x + 1 by omega, pv_gi_gt (by omega)]
      · rw [sp2_Zo e1 e2]
        exact (h.1 l' j hl'' hj).mv (hoo _ j hl'' hj (by omega) (by omega)) (fun _ _ _ => ⟨rfl, rfl⟩) (fun h0 _ _ => by rw [hAo _ (by omega)])
  · intro l1 k1 l2 k2 q1 q2 q3 q4 he
    have q1' : l1 < S.1 := q1
    have q3' : l2 < S.1 := q3
    have key : ∀ l' j, l' < S.1 → j < (pv_sp2 F S l k up).2.1 l' → (va_up A l (pv_gi (A l) (k + 1) b0) l' j = b0 ∧ l' = l ∧ j = k + 1) ∨ ∃ j', j' < S.2.1 l' ∧ va_up A l (pv_gi (A l) (k + 1) b0) l' j = A l' j' ∧ (l' = l ∧ j = k + 1 → False) ∧ j = (if l' = l ∧ k + 1 ≤ j' then j' + 1 else j') := by
      intro l' j a1 a2
      rw [sp2_C] at a2
      by_cases e1 : l' = l
      · subst e1
        rw [if_pos rfl] at a2
        rw [hAl]
        rcases (show j < k + 1 ∨ j = k + 1 ∨ ∃ q, j = q + 1 ∧ k + 1 ≤ q by
          rcases Nat.lt_or_ge (k + 1) j with q | q
          · exact Or.inr (Or.inr ⟨j - 1, by omega, by omega⟩)
          · omega) with q | q | ⟨q, rfl, hq⟩
        · right; exact ⟨j, by omega, pv_gi_lt q, by omega, by rw [if_neg (by omega)]⟩
        · left; subst q; exact ⟨pv_gi_eq, rfl, rfl⟩
        · right; exact ⟨q, by omega, pv_gi_gt hq, by omega, by rw [if_pos ⟨rfl, hq⟩]⟩
      · rw [if_neg e1] at a2
        rw [hAo l' e1]
        right; exact ⟨j, a2, rfl, by omega, by rw [if_neg (by omega)]⟩
    rcases key l1 k1 q1' q2 with ⟨r1, r2, r3⟩ | ⟨j1, r1, r2, r3, r4⟩
    · rcases key l2 k2 q3' q4 with ⟨s1, s2, s3⟩ | ⟨j2, s1, s2, s3, s4⟩
      · omega
      · rw [r1, s2] at he
        exact absurd he.symm (hb _ _ q3' s1)
    · rcases key l2 k2 q3' q4 with ⟨s1, s2, s3⟩ | ⟨j2, s1, s2, s3, s4⟩
      · rw [r2, s1] at he
        exact absurd he (hb _ _ q1' r1)
      · rw [r2, s2] at he
        obtain ⟨u1, u2⟩ := h.2 _ _ _ _ q1' r1 q3' s1 he
        subst u1 u2
        exact ⟨rfl, r4.trans s4.symm⟩
theorem cp_split_lc {Lb : cp_L} {Ek Ev : Nat → Int32} {w1 w2 : Int32 × Int32 × Int32} {kk : Nat → Nat} (hl : l + 1 < S.1) (hk : k < S.2.1 l) (hz : S.2.2 l k = F + 1) (hF : 3 ≤ F) (h1 : pv_sum (S.2.2 (l + 1)) up ≤ k) (h2 : k < pv_sum (S.2.2 (l + 1)) up + S.2.2 (l + 1) up) (hw1 : w1 = cp_w Ek Ev Lb l (pv_sum (S.2.2 l) k) ((F + 2) / 2) w1.1) (hw2 : w2 = cp_w Ek Ev Lb l (pv_sum (S.2.2 l) k + (F + 2) / 2) (F + 1 - (F + 2) / 2) w2.1) (hkl : kk l = k) (hku : kk (l + 1) = up)
    (hlc : ∀ l' k', l' < S.1 → k' < S.2.1 l' → ¬ (l ≤ l' ∧ k' = kk l') → cp_lc S Ek Ev Lb l' k') :
    ∀ l' k', l' < (pv_sp2 F S l k up).1 → k' < (pv_sp2 F S l k up).2.1 l' → ¬ (l + 1 ≤ l' ∧ k' = kk l') → cp_lc (pv_sp2 F S l k up) Ek Ev (va_up Lb l (pv_gi (va_up (Lb l) k w1) (k + 1) w2)) l' k' := by
  have hLo : ∀ l', l' ≠ l → va_up Lb l (pv_gi (va_up (Lb l) k w1) (k + 1) w2) l' = Lb l' := fun l' hl' => va_up_ne _ _ hl'
  have hLl : va_up Lb l (pv_gi (va_up (Lb l) k w1) (k + 1) w2) l = pv_gi (va_up (Lb l) k w1) (k + 1) w2 := va_up_self _ _ _
  intro l' j hl' hj hne
  have hl'' : l' < S.1 := hl'
  rw [sp2_C] at hj
  unfold cp_lc
  by_cases e1 : l' = l
  · subst e1
    rw [if_pos rfl] at hj
    have hdn : ∀ f n le, cp_w Ek Ev (va_up Lb l' (pv_gi (va_up (Lb l') k w1) (k + 1) w2)) l' f n le = cp_w Ek Ev Lb l' f n le := fun f n le => cp_w_mv (fun _ _ _ => ⟨rfl, rfl⟩) (fun h0 _ _ => by rw [hLo _ (by omega)])
    rw [hdn, hLl]
    rcases (show j < k ∨ j = k ∨ j = k + 1 ∨ ∃ q, j = q + 1 ∧ k + 1 ≤ q by
      rcases Nat.lt_or_ge (k + 1) j with q | q
      · exact Or.inr (Or.inr (Or.inr ⟨j - 1, by omega, by omega⟩))
      · omega) with q | q | q | ⟨q, rfl, hq⟩
    · rw [pv_gi_lt (by omega), va_up_ne _ _ (by omega), sp2_s0 (by omega), sp2_Zl, pv_gi_lt (by omega), va_up_ne _ _ (by omega)]
      exact hlc l' j hl'' (by omega) (by omega)
    · subst q
      rw [pv_gi_lt (by omega), va_up_self, sp2_s0 (by omega), sp2_Zl, pv_gi_lt (by omega), va_up_self]
      exact hw1
    · subst q
      rw [pv_gi_eq, sp2_s1, sp2_Zl, pv_gi_eq]
      exact hw2
    · rw [pv_gi_gt hq, va_up_ne _ _ (by omega), sp2_s2 hz hF hq, sp2_Zl, pv_gi_gt hq, va_up_ne _ _ (by omega)]
      exact hlc l' q hl'' (by omega) (by omega)
  · rw [if_neg e1] at hj
    rw [hLo l' e1]
    by_cases e2 : l' = l + 1
    · subst e2
      have hju : j ≠ up := fun q => hne ⟨Nat.le_refl _, q.trans hku.symm⟩
      have hq := hlc (l + 1) j hl'' hj (by rw [hku]; omega)
      unfold cp_lc at hq
      rcases Nat.lt_or_gt_of_ne hju with q | q
      · rw [sp2_u0 (by omega), sp2_Zu, va_up_ne _ _ (by omega)]
        refine hq.trans (cp_w_mv (fun _ _ _ => ⟨rfl, rfl⟩) (fun _ x hx => ?_))
        have := pv_bef (z := S.2.2 (l + 1)) q hx h1
        simp only [Nat.add_sub_cancel]
        rw [hLl, pv_gi_lt (by omega), va_up_ne _ _ (by omega)]
      · rw [sp2_u1 q, sp2_Zu, va_up_ne _ _ (by omega)]
        refine hq.trans (cp_w_mv (fun h0 => absurd h0 (by omega)) (fun _ x hx => ?_))
        have := pv_beh (z := S.2.2 (l + 1)) q h2
        simp only [Nat.add_sub_cancel]
        rw [hLl, show pv_sum (S.2.2 (l + 1)) j + 1 + x = pv_sum (S.2.2 (l + 1)) j + x + 1 by omega, pv_gi_gt (by omega), va_up_ne _ _ (by omega)]
    · rw [sp2_Zo e1 e2]
      have hq := hlc l' j hl'' hj (by omega)
      unfold cp_lc at hq
      exact hq.trans (cp_w_mv (fun _ _ _ => ⟨rfl, rfl⟩) (fun h0 _ _ => by rw [hLo _ (by omega)]))
end CS
