/-! COORDINATES when a slot is lent and when two nodes are joined -/
theorem va_up_comm {α : Type} {f : Nat → α} {i j : Nat} {x y : α} (h : i ≠ j) : va_up (va_up f i x) j y = va_up (va_up f j y) i x := by
  funext k
  by_cases h1 : k = j
  · subst h1; rw [va_up_self, va_up_ne _ _ (Ne.symm h), va_up_self]
  · rw [va_up_ne _ _ h1]
    by_cases h2 : k = i
    · subst h2; rw [va_up_self, va_up_self]
    · rw [va_up_ne _ _ h2, va_up_ne _ _ h2, va_up_ne _ _ h1]
abbrev pv_ln (S : pv_Sh) (l m z1 z2 : Nat) : pv_Sh := (S.1, S.2.1, va_up S.2.2 l (va_up (va_up (S.2.2 l) m z1) (m + 1) z2))
abbrev pv_jn (S : pv_Sh) (l t up : Nat) : pv_Sh := (S.1, va_up S.2.1 l (S.2.1 l - 1), va_up (va_up S.2.2 l (pv_zd (va_up (S.2.2 l) t (S.2.2 l t + S.2.2 l (t + 1))) (t + 1))) (l + 1) (va_up (S.2.2 (l + 1)) up (S.2.2 (l + 1) up - 1)))
theorem cp.ch {H : pv_H} {A : Nat → Nat → Nat} {Lb : cp_L} {S : pv_Sh} {Ek Ev : Nat → Int32} {l x : Nat} (h : cp H A Lb S Ek Ev) (hl0 : 0 < l) (hl : l < S.1) (hx : x < S.2.1 (l - 1)) : (∀ k, k < S.2.1 l → A (l - 1) x ≠ A l k) ∧ (∃ w, H (A (l - 1) x) = some w) ∧ pv_lb H (some (A (l - 1) x)) = Lb (l - 1) x :=
  ⟨fun k hk => h.ne (by omega) hx hl hk (by omega), h.kid (by omega) hx, (h.1 _ _ (by omega) hx).lb⟩
section LN
variable {S : pv_Sh} {l m z1 z2 : Nat}
theorem ln_Zl : (pv_ln S l m z1 z2).2.2 l = va_up (va_up (S.2.2 l) m z1) (m + 1) z2 := va_up_self _ _ _
theorem ln_Zo {l' : Nat} (h : l' ≠ l) : (pv_ln S l m z1 z2).2.2 l' = S.2.2 l' := va_up_ne _ _ h
theorem ln_s0 {j : Nat} (hj : j ≤ m) : pv_sum ((pv_ln S l m z1 z2).2.2 l) j = pv_sum (S.2.2 l) j := by
  rw [ln_Zl, pv_sum_up_le (by omega), pv_sum_up_le hj]
theorem ln_s1 : pv_sum ((pv_ln S l m z1 z2).2.2 l) (m + 1) = pv_sum (S.2.2 l) m + z1 := by
  rw [ln_Zl, pv_sum_up_le (Nat.le_refl _)]
  simp only [pv_sum]
  rw [pv_sum_up_le (Nat.le_refl _), va_up_self]
theorem ln_s2 {j : Nat} (hz : z1 + z2 = S.2.2 l m + S.2.2 l (m + 1)) (hj : m + 2 ≤ j) : pv_sum ((pv_ln S l m z1 z2).2.2 l) j = pv_sum (S.2.2 l) j := by
  rw [ln_Zl]
  have h1 := pv_sum_up (z := va_up (S.2.2 l) m z1) (k := m + 1) (x := z2) (c := j) (by omega)
  have h2 := pv_sum_up (z := S.2.2 l) (k := m) (x := z1) (c := j) (by omega)
  rw [va_up_ne _ _ (by omega)] at h1
  omega
theorem cp_lend {H H' : pv_H} {A : Nat → Nat → Nat} {Lb : cp_L} {Ek Ev : Nat → Int32} {w1 w2 : Int32 × Int32 × Int32} (h : cp H A Lb S Ek Ev) (hl : l < S.1) (hm : m + 1 < S.2.1 l) (hz : z1 + z2 = S.2.2 l m + S.2.2 l (m + 1))
    (c1 : cp_n H' (A l m) A Ek Ev l (pv_sum (S.2.2 l) m) z1 w1) (c2 : cp_n H' (A l (m + 1)) A Ek Ev l (pv_sum (S.2.2 l) m + z1) z2 w2) (ho : ∀ y, y ≠ A l m → y ≠ A l (m + 1) → H' y = H y) : cp H' A (cp_u (cp_u Lb l m w1) l (m + 1) w2) (pv_ln S l m z1 z2) Ek Ev := by
  refine ⟨fun l' j hl' hj => ?_, h.2⟩
  have hl'' : l' < S.1 := hl'
  have hj' : j < S.2.1 l' := hj
  by_cases q1 : l' = l ∧ j = m
  · obtain ⟨rfl, rfl⟩ := q1
    rw [cp_u_ne (by omega), cp_u_self, ln_s0 (Nat.le_refl _), ln_Zl, va_up_ne _ _ (by omega), va_up_self]; exact c1
  · by_cases q2 : l' = l ∧ j = m + 1
    · obtain ⟨rfl, rfl⟩ := q2
      rw [cp_u_self, ln_s1, ln_Zl, va_up_self]; exact c2
    · rw [cp_u_ne q2, cp_u_ne q1]
      have hH : H' (A l' j) = H (A l' j) := ho _ (h.ne hl'' hj' hl (by omega) q1) (h.ne hl'' hj' hl hm q2)
      by_cases e : l' = l
      · subst e
        have es : pv_sum ((pv_ln S l' m z1 z2).2.2 l') j = pv_sum (S.2.2 l') j := by
          rcases (show j ≤ m ∨ m + 2 ≤ j by omega) with r | r
          · exact ln_s0 r
          · exact ln_s2 hz r
        rw [es, ln_Zl, va_up_ne _ _ (by omega), va_up_ne _ _ (by omega)]
        exact (h.1 l' j hl'' hj').mv hH (fun _ _ _ => ⟨rfl, rfl⟩) (fun _ _ _ => rfl)
      · rw [ln_Zo e]
        exact (h.1 l' j hl'' hj').mv hH (fun _ _ _ => ⟨rfl, rfl⟩) (fun _ _ _ => rfl)
theorem cp_lend_lc {Lb : cp_L} {Ek Ev : Nat → Int32} {w1 w2 : Int32 × Int32 × Int32} {kk : Nat → Nat} (hl : l + 1 < S.1) (hz : z1 + z2 = S.2.2 l m + S.2.2 l (m + 1)) (h1 : pv_sum (S.2.2 (l + 1)) (kk (l + 1)) ≤ m) (h2 : m + 1 < pv_sum (S.2.2 (l + 1)) (kk (l + 1)) + S.2.2 (l + 1) (kk (l + 1)))
    (hw1 : w1 = cp_w Ek Ev Lb l (pv_sum (S.2.2 l) m) z1 w1.1) (hw2 : w2 = cp_w Ek Ev Lb l (pv_sum (S.2.2 l) m + z1) z2 w2.1) (hlc : cp_ll S Ek Ev Lb kk (l + 1)) : cp_ll (pv_ln S l m z1 z2) Ek Ev (cp_u (cp_u Lb l m w1) l (m + 1) w2) kk (l + 1) := by
  intro l' j hl' hj hne
  have hl'' : l' < S.1 := hl'
  have hj' : j < S.2.1 l' := hj
  have hlo : ∀ l'' j', l'' ≠ l → cp_u (cp_u Lb l m w1) l (m + 1) w2 l'' j' = Lb l'' j' := fun l'' j' q => by rw [cp_u_ne (by omega), cp_u_ne (by omega)]
  have hdn : ∀ f n le, cp_w Ek Ev (cp_u (cp_u Lb l m w1) l (m + 1) w2) l f n le = cp_w Ek Ev Lb l f n le := fun f n le => cp_w_mv (fun _ _ _ => ⟨rfl, rfl⟩) (fun h0 _ _ => hlo _ _ (by omega))
  unfold cp_lc
  by_cases q1 : l' = l ∧ j = m
  · obtain ⟨rfl, rfl⟩ := q1
    rw [hdn, cp_u_ne (by omega), cp_u_self, ln_s0 (Nat.le_refl _), ln_Zl, va_up_ne _ _ (by omega), va_up_self]; exact hw1
  · by_cases q2 : l' = l ∧ j = m + 1
    · obtain ⟨rfl, rfl⟩ := q2
      rw [hdn, cp_u_self, ln_s1, ln_Zl, va_up_self]; exact hw2
    · have hq := hlc l' j hl'' hj' hne
      unfold cp_lc at hq
      rw [cp_u_ne q2, cp_u_ne q1]
      by_cases e : l' = l
      · subst e
        have es : pv_sum ((pv_ln S l' m z1 z2).2.2 l') j = pv_sum (S.2.2 l') j := by
          rcases (show j ≤ m ∨ m + 2 ≤ j by omega) with r | r
          · exact ln_s0 r
          · exact ln_s2 hz r
        rw [hdn, es, ln_Zl, va_up_ne _ _ (by omega), va_up_ne _ _ (by omega)]
        exact hq
      · rw [ln_Zo e]
        refine hq.trans (cp_w_mv (fun _ _ _ => ⟨rfl, rfl⟩) (fun h0 x hx => ?_))
        by_cases e2 : l' = l + 1
        · subst e2
          simp only [Nat.add_sub_cancel]
          have hju : j ≠ kk (l + 1) := fun q => hne ⟨Nat.le_refl _, q⟩
          have hne2 : pv_sum (S.2.2 (l + 1)) j + x < m ∨ m + 1 < pv_sum (S.2.2 (l + 1)) j + x := by
            rcases Nat.lt_or_gt_of_ne hju with r | r
            · left; exact pv_bef (z := S.2.2 (l + 1)) r hx h1
            · right; have := pv_beh (z := S.2.2 (l + 1)) r h2; omega
          rw [cp_u_ne (by omega), cp_u_ne (by omega)]
        · rw [hlo _ _ (by omega)]
end LN
section JN
variable {S : pv_Sh} {l t up : Nat}
theorem jn_C (l' : Nat) : (pv_jn S l t up).2.1 l' = if l' = l then S.2.1 l - 1 else S.2.1 l' := by
  show va_up S.2.1 l (S.2.1 l - 1) l' = _
  by_cases h : l' = l
  · subst h; rw [va_up_self, if_pos rfl]
  · rw [va_up_ne _ _ h, if_neg h]
theorem jn_Zl : (pv_jn S l t up).2.2 l = pv_gd (va_up (S.2.2 l) t (S.2.2 l t + S.2.2 l (t + 1))) (t + 1) := by
  show va_up (va_up S.2.2 l _) (l + 1) _ l = _
  rw [va_up_ne _ _ (by omega), va_up_self]; rfl
theorem jn_Zu : (pv_jn S l t up).2.2 (l + 1) = va_up (S.2.2 (l + 1)) up (S.2.2 (l + 1) up - 1) := by
  show va_up (va_up S.2.2 l _) (l + 1) _ (l + 1) = _
  rw [va_up_self]
theorem jn_Zo {l' : Nat} (h1 : l' ≠ l) (h2 : l' ≠ l + 1) : (pv_jn S l t up).2.2 l' = S.2.2 l' := by
  show va_up (va_up S.2.2 l _) (l + 1) _ l' = _
  rw [va_up_ne _ _ h2, va_up_ne _ _ h1]
theorem jn_s0 {j : Nat} (hj : j ≤ t) : pv_sum ((pv_jn S l t up).2.2 l) j = pv_sum (S.2.2 l) j := by
  rw [jn_Zl]
  exact (pv_sum_zd_le (by omega)).trans (pv_sum_up_le hj)
theorem jn_s2 {j : Nat} (hj : t + 1 ≤ j) : pv_sum ((pv_jn S l t up).2.2 l) j = pv_sum (S.2.2 l) (j + 1) := by
  rw [jn_Zl]
  have h1 : pv_sum (pv_gd (va_up (S.2.2 l) t (S.2.2 l t + S.2.2 l (t + 1))) (t + 1)) j + _ = _ := pv_sum_zd (z := va_up (S.2.2 l) t (S.2.2 l t + S.2.2 l (t + 1))) (i := t + 1) (c := j) hj
  have h2 := pv_sum_up (z := S.2.2 l) (k := t) (x := S.2.2 l t + S.2.2 l (t + 1)) (c := j + 1) (by omega)
  rw [va_up_ne _ _ (by omega)] at h1
  omega
theorem jn_u0 {j : Nat} (hj : j ≤ up) : pv_sum ((pv_jn S l t up).2.2 (l + 1)) j = pv_sum (S.2.2 (l + 1)) j := by
  rw [jn_Zu]; exact pv_sum_up_le hj
theorem jn_u1 {j : Nat} (hj : up < j) (hz : 0 < S.2.2 (l + 1) up) : pv_sum ((pv_jn S l t up).2.2 (l + 1)) j = pv_sum (S.2.2 (l + 1)) j - 1 := by
  rw [jn_Zu]
  have := pv_sum_up (z := S.2.2 (l + 1)) (k := up) (x := S.2.2 (l + 1) up - 1) hj
  omega
theorem cp_join {H H' : pv_H} {A : Nat → Nat → Nat} {Lb : cp_L} {Ek Ev : Nat → Int32} {w : Int32 × Int32 × Int32} (h : cp H A Lb S Ek Ev) (hl : l + 1 < S.1) (ht : t + 1 < S.2.1 l) (hup : up < S.2.1 (l + 1)) (h1 : pv_sum (S.2.2 (l + 1)) up ≤ t) (h2 : t + 1 < pv_sum (S.2.2 (l + 1)) up + S.2.2 (l + 1) up)
    (ha : cp_n H' (A l t) A Ek Ev l (pv_sum (S.2.2 l) t) (S.2.2 l t + S.2.2 l (t + 1)) w) (hp : cp_n H' (A (l + 1) up) (va_up A l (pv_gd (A l) (t + 1))) Ek Ev (l + 1) (pv_sum (S.2.2 (l + 1)) up) (S.2.2 (l + 1) up - 1) (Lb (l + 1) up)) (ho : ∀ y, y ≠ A l t → y ≠ A l (t + 1) → y ≠ A (l + 1) up → H' y = H y) :
    cp H' (va_up A l (pv_gd (A l) (t + 1))) (va_up Lb l (pv_gd (va_up (Lb l) t w) (t + 1))) (pv_jn S l t up) Ek Ev := by
  have hAo : ∀ l', l' ≠ l → va_up A l (pv_gd (A l) (t + 1)) l' = A l' := fun l' hl' => va_up_ne _ _ hl'
  have hAl : va_up A l (pv_gd (A l) (t + 1)) l = pv_gd (A l) (t + 1) := va_up_self _ _ _
  have hLo : ∀ l', l' ≠ l → va_up Lb l (pv_gd (va_up (Lb l) t w) (t + 1)) l' = Lb l' := fun l' hl' => va_up_ne _ _ hl'
  have hLl : va_up Lb l (pv_gd (va_up (Lb l) t w) (t + 1)) l = pv_gd (va_up (Lb l) t w) (t + 1) := va_up_self _ _ _
  have hoo : ∀ l' k', l' < S.1 → k' < S.2.1 l' → ¬ (l' = l ∧ k' = t) → ¬ (l' = l ∧ k' = t + 1) → ¬ (l' = l + 1 ∧ k' = up) → H' (A l' k') = H (A l' k') := fun l' k' q1 q2 q3 q4 q5 => ho _ (h.ne q1 q2 (by omega) (by omega) q3) (h.ne q1 q2 (by omega) ht q4) (h.ne q1 q2 hl hup q5)
  refine ⟨fun l' j hl' hj => ?_, ?_⟩
  · rw [jn_C] at hj
    have hl'' : l' < S.1 := hl'
    by_cases e1 : l' = l
    · subst e1
      rw [if_pos rfl] at hj
      rw [hAl, hLl]
      rcases (show j < t ∨ j = t ∨ t + 1 ≤ j by omega) with q | q | q
      · rw [pv_gd_lt (by omega), pv_gd_lt (by omega), va_up_ne _ _ (by omega), jn_s0 (by omega), jn_Zl, pv_gd_lt (by omega), va_up_ne _ _ (by omega)]
        exact (h.1 l' j hl'' (by omega)).mv (hoo l' j hl'' (by omega) (by omega) (by omega) (by omega)) (fun _ _ _ => ⟨rfl, rfl⟩) (fun h0 _ _ => by rw [hAo _ (by omega)])
      · subst q
        rw [pv_gd_lt (by omega), pv_gd_lt (by omega), va_up_self, jn_s0 (by omega), jn_Zl, pv_gd_lt (by omega), va_up_self]
        exact ha.mv rfl (fun _ _ _ => ⟨rfl, rfl⟩) (fun h0 _ _ => by rw [hAo _ (by omega)])
      · rw [pv_gd_ge q, pv_gd_ge q, va_up_ne _ _ (by omega), jn_s2 q, jn_Zl, pv_gd_ge q, va_up_ne _ _ (by omega)]
        exact (h.1 l' (j + 1) hl'' (by omega)).mv (hoo l' (j + 1) hl'' (by omega) (by omega) (by omega) (by omega)) (fun _ _ _ => ⟨rfl, rfl⟩) (fun h0 _ _ => by rw [hAo _ (by omega)])
    · rw [if_neg e1] at hj
      rw [hAo l' e1, hLo l' e1]
      by_cases e2 : l' = l + 1
      · subst e2
        rcases Nat.lt_trichotomy j up with q | q | q
        · rw [jn_u0 (by omega), jn_Zu, va_up_ne _ _ (by omega)]
          refine (h.1 (l + 1) j hl'' hj).mv (hoo _ j hl'' hj (by omega) (by omega) (by omega)) (fun h0 => absurd h0 (by omega)) (fun _ x hx => ?_)
          have := pv_bef (z := S.2.2 (l + 1)) q hx h1
          simp only [Nat.add_sub_cancel]
          rw [hAl, pv_gd_lt (by omega)]
        · subst q
          rw [jn_u0 (by omega), jn_Zu, va_up_self]; exact hp
        · have hs := jn_u1 (S := S) (l := l) (t := t) q (by omega)
          rw [hs, jn_Zu, va_up_ne _ _ (by omega)]
          refine (h.1 (l + 1) j hl'' hj).mv (hoo _ j hl'' hj (by omega) (by omega) (by omega)) (fun h0 => absurd h0 (by omega)) (fun _ x hx => ?_)
          have := pv_beh (z := S.2.2 (l + 1)) q h2
          simp only [Nat.add_sub_cancel]
          rw [hAl, pv_gd_ge (by omega)]
          congr 1; omega
      · rw [jn_Zo e1 e2]
        exact (h.1 l' j hl'' hj).mv (hoo _ j hl'' hj (by omega) (by omega) (by omega)) (fun _ _ _ => ⟨rfl, rfl⟩) (fun h0 _ _ => by rw [hAo _ (by omega)])
  · intro l1 k1 l2 k2 q1 q2 q3 q4 he
    have q1' : l1 < S.1 := q1
    have q3' : l2 < S.1 := q3
    have key : ∀ l' j, l' < S.1 → j < (pv_jn S l t up).2.1 l' → ∃ j', j' < S.2.1 l' ∧ va_up A l (pv_gd (A l) (t + 1)) l' j = A l' j' ∧ j' = (if l' = l ∧ t + 1 ≤ j then j + 1 else j) := by
      intro l' j a1 a2
      rw [jn_C] at a2
      by_cases e1 : l' = l
      · subst e1
        rw [if_pos rfl] at a2
        rw [hAl]
        rcases (show j < t + 1 ∨ t + 1 ≤ j by omega) with q | q
        · exact ⟨j, by omega, pv_gd_lt q, by rw [if_neg (by omega)]⟩
        · exact ⟨j + 1, by omega, pv_gd_ge q, by rw [if_pos ⟨rfl, q⟩]⟩
      · rw [if_neg e1] at a2
        rw [hAo l' e1]
        exact ⟨j, a2, rfl, by rw [if_neg (by omega)]⟩
    obtain ⟨j1, r1, r2, r4⟩ := key l1 k1 q1' q2
    obtain ⟨j2, s1, s2, s4⟩ := key l2 k2 q3' q4
    rw [r2, s2] at he
    obtain ⟨u1, u2⟩ := h.2 _ _ _ _ q1' r1 q3' s1 he
    subst u1
    refine ⟨rfl, ?_⟩
    rw [r4, s4] at u2
    by_cases v1 : l1 = l ∧ t + 1 ≤ k1
    · rw [if_pos v1] at u2
      by_cases v2 : l1 = l ∧ t + 1 ≤ k2
      · rw [if_pos v2] at u2; omega
      · rw [if_neg v2] at u2; omega
    · rw [if_neg v1] at u2
      by_cases v2 : l1 = l ∧ t + 1 ≤ k2
      · rw [if_pos v2] at u2; omega
      · rw [if_neg v2] at u2; exact u2
theorem cp_join_lc {Lb : cp_L} {Ek Ev : Nat → Int32} {w : Int32 × Int32 × Int32} {kk : Nat → Nat} (hl : l + 1 < S.1) (ht : t + 1 < S.2.1 l) (h1 : pv_sum (S.2.2 (l + 1)) (kk (l + 1)) ≤ t) (h2 : t + 1 < pv_sum (S.2.2 (l + 1)) (kk (l + 1)) + S.2.2 (l + 1) (kk (l + 1))) (hw : w = cp_w Ek Ev Lb l (pv_sum (S.2.2 l) t) (S.2.2 l t + S.2.2 l (t + 1)) w.1)
    (hlc : cp_ll S Ek Ev Lb kk (l + 1)) : cp_ll (pv_jn S l t (kk (l + 1))) Ek Ev (va_up Lb l (pv_gd (va_up (Lb l) t w) (t + 1))) kk (l + 1) := by
  have hLo : ∀ l', l' ≠ l → va_up Lb l (pv_gd (va_up (Lb l) t w) (t + 1)) l' = Lb l' := fun l' hl' => va_up_ne _ _ hl'
  have hLl : va_up Lb l (pv_gd (va_up (Lb l) t w) (t + 1)) l = pv_gd (va_up (Lb l) t w) (t + 1) := va_up_self _ _ _
  intro l' j hl' hj hne
  have hl'' : l' < S.1 := hl'
  rw [jn_C] at hj
  unfold cp_lc
  by_cases e1 : l' = l
  · subst e1
    rw [if_pos rfl] at hj
    have hdn : ∀ f n le, cp_w Ek Ev (va_up Lb l' (pv_gd (va_up (Lb l') t w) (t + 1))) l' f n le = cp_w Ek Ev Lb l' f n le := fun f n le => cp_w_mv (fun _ _ _ => ⟨rfl, rfl⟩) (fun h0 _ _ => by rw [hLo _ (by omega)])
    rw [hdn, hLl]
    rcases (show j < t ∨ j = t ∨ t + 1 ≤ j by omega) with q | q | q
    · rw [pv_gd_lt (by omega), va_up_ne _ _ (by omega), jn_s0 (by omega), jn_Zl, pv_gd_lt (by omega), va_up_ne _ _ (by omega)]
      exact hlc l' j hl'' (by omega) (by omega)
    · subst q
      rw [pv_gd_lt (by omega), va_up_self, jn_s0 (by omega), jn_Zl, pv_gd_lt (by omega), va_up_self]
      exact hw
    · rw [pv_gd_ge q, va_up_ne _ _ (by omega), jn_s2 q, jn_Zl, pv_gd_ge q, va_up_ne _ _ (by omega)]
      exact hlc l' (j + 1) hl'' (by omega) (by omega)
  · rw [if_neg e1] at hj
    rw [hLo l' e1]
    have hq := hlc l' j hl'' hj hne
    unfold cp_lc at hq
    by_cases e2 : l' = l + 1
    · subst e2
      have hju : j ≠ kk (l + 1) := fun q => hne ⟨Nat.le_refl _, q⟩
      rcases Nat.lt_or_gt_of_ne hju with q | q
      · rw [jn_u0 (by omega), jn_Zu, va_up_ne _ _ (by omega)]
        refine hq.trans (cp_w_mv (fun _ _ _ => ⟨rfl, rfl⟩) (fun _ x hx => ?_))
        have := pv_bef (z := S.2.2 (l + 1)) q hx h1
        simp only [Nat.add_sub_cancel]
        rw [hLl, pv_gd_lt (by omega), va_up_ne _ _ (by omega)]
      · have hs := jn_u1 (S := S) (l := l) (t := t) q (by omega)
        rw [hs, jn_Zu, va_up_ne _ _ (by omega)]
        refine hq.trans (cp_w_mv (fun h0 => absurd h0 (by omega)) (fun _ x hx => ?_))
        have := pv_beh (z := S.2.2 (l + 1)) q h2
        simp only [Nat.add_sub_cancel]
        rw [hLl, pv_gd_ge (by omega), va_up_ne _ _ (by omega)]
        congr 1; omega
    · rw [jn_Zo e1 e2]
      exact hq.trans (cp_w_mv (fun _ _ _ => ⟨rfl, rfl⟩) (fun h0 _ _ => by rw [hLo _ (by omega)]))
end JN
