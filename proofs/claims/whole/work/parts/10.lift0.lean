def sw_b2 {α β γ : Type} (o : Option (α × β)) (k : α → β → Option γ) : Option γ := o.bind fun q => k q.1 q.2
theorem sw_b2_eq {α β γ : Type} {o : Option (α × β)} {k : α → β → Option γ} {r : γ} (h : sw_b2 o k = some r) : ∃ a b, o = some (a, b) ∧ k a b = some r := by
  obtain ⟨⟨a, b⟩, h1, h2⟩ := Option.bind_eq_some_iff.mp h
  exact ⟨a, b, h1, h2⟩
theorem sw_z_eq {x z : Int32} (h : sw_z x = some z) : x = z ∧ narrow .boolean (.int x) = .int x ∧ fits .boolean (.int x) = true := by
  unfold sw_z at h
  split at h
  · next hx =>
    cases h
    rcases hx with rfl | rfl <;> exact ⟨rfl, rfl, rfl⟩
  · cases h
theorem sw_nr (t : FieldType) (ht : t.isReference = true) (r : Option Nat) : narrow t (sw_v (P_ r)) = sw_v (P_ r) := by
  cases t <;> cases r <;> first | rfl | cases ht
theorem sw_fr (t : FieldType) (ht : t.isReference = true) (r : Option Nat) : fits t (sw_v (P_ r)) = true := by
  cases t <;> cases r <;> first | rfl | cases ht
theorem sw_rm {st : List sw_U} (h : sw_n st ≤ 8) : ((st.map sw_v).map fun v => v.category).sum ≤ 8 := by
  have e : ((st.map sw_v).map fun v => v.category).sum = sw_n st := by
    clear h
    induction st with
    | nil => rfl
    | cons u us ih =>
      simp only [List.map_cons, List.sum_cons, sw_n, ih]
      congr 1
      rcases u with x | x | r
      · rfl
      · rfl
      · cases r <;> rfl
  rw [e]; exact h
theorem sw_c1 (r : Option Nat) : (va_rf r).category = 1 := by cases r <;> rfl

theorem cl_0 : vwCl[0]? = some (RX0, TX0, 13) := rfl
theorem cl_1 : vwCl[1]? = some (RX1, TX1, 8) := rfl
theorem cl_2 : vwCl[2]? = some (RX2, TX2, 2) := rfl
theorem cl_3 : vwCl[3]? = some (RX3, TX3, 2) := rfl
theorem cl_4 : vwCl[4]? = some (RX4, TX4, 3) := rfl
theorem cl_5 : vwCl[5]? = some (RX5, TX5, 3) := rfl
theorem cl_6 : vwCl[6]? = some (RX6, TX6, 6) := rfl
theorem cl_7 : vwCl[7]? = some (RX7, TX7, 4) := rfl
theorem cl_8 : vwCl[8]? = some (RX8, TX8, 32) := rfl
theorem fs_X0 : ∀ j, j < 13 → defaultValue (tyX0 j) = vp_V [.int 0, .null, .null, .null, .null, .null, .null, .int 0, .int 0, .int 0, .int 0, .int 0, .int 0] j := by
  intro j hj
  match j, hj with
  | 0, _ => rfl
  | 1, _ => rfl
  | 2, _ => rfl
  | 3, _ => rfl
  | 4, _ => rfl
  | 5, _ => rfl
  | 6, _ => rfl
  | 7, _ => rfl
  | 8, _ => rfl
  | 9, _ => rfl
  | 10, _ => rfl
  | 11, _ => rfl
  | 12, _ => rfl
  | j + 13, h => exact absurd h (by omega)
theorem fs_X1 : ∀ j, j < 8 → defaultValue (tyX1 j) = vp_V [.int 0, .null, .null, .null, .int 0, .int 0, .int 0, .int 0] j := by
  intro j hj
  match j, hj with
  | 0, _ => rfl
  | 1, _ => rfl
  | 2, _ => rfl
  | 3, _ => rfl
  | 4, _ => rfl
  | 5, _ => rfl
  | 6, _ => rfl
  | 7, _ => rfl
  | j + 8, h => exact absurd h (by omega)
theorem fs_X2 : ∀ j, j < 2 → defaultValue (tyX2 j) = vp_V [.null, .int 0] j := by
  intro j hj
  match j, hj with
  | 0, _ => rfl
  | 1, _ => rfl
  | j + 2, h => exact absurd h (by omega)
theorem fs_X3 : ∀ j, j < 2 → defaultValue (tyX3 j) = vp_V [.null, .null] j := by
  intro j hj
  match j, hj with
  | 0, _ => rfl
  | 1, _ => rfl
  | j + 2, h => exact absurd h (by omega)
theorem fs_X4 : ∀ j, j < 3 → defaultValue (tyX4 j) = vp_V [.int 0, .int 0, .int 0] j := by
  intro j hj
  match j, hj with
  | 0, _ => rfl
  | 1, _ => rfl
  | 2, _ => rfl
  | j + 3, h => exact absurd h (by omega)
theorem fs_X5 : ∀ j, j < 3 → defaultValue (tyX5 j) = vp_V [.null, .null, .int 0] j := by
  intro j hj
  match j, hj with
  | 0, _ => rfl
  | 1, _ => rfl
  | 2, _ => rfl
  | j + 3, h => exact absurd h (by omega)
theorem fs_X6 : ∀ j, j < 6 → defaultValue (tyX6 j) = vp_V [.int 0, .int 0, .null, .null, .null, .int 0] j := by
  intro j hj
  match j, hj with
  | 0, _ => rfl
  | 1, _ => rfl
  | 2, _ => rfl
  | 3, _ => rfl
  | 4, _ => rfl
  | 5, _ => rfl
  | j + 6, h => exact absurd h (by omega)
theorem fs_X7 : ∀ j, j < 4 → defaultValue (tyX7 j) = vp_V [.null, .null, .null, .null] j := by
  intro j hj
  match j, hj with
  | 0, _ => rfl
  | 1, _ => rfl
  | 2, _ => rfl
  | 3, _ => rfl
  | j + 4, h => exact absurd h (by omega)
theorem fs_X8 : ∀ j, j < 32 → defaultValue (tyX8 j) = vp_V [.int 0, .int 0, .int 0, .null, .null, .int 0, .null, .null, .null, .null, .null, .null, .int 0, .null, .null, .null, .int 0, .null, .null, .null, .null, .null, .null, .null, .null, .null, .int 0, .int 0, .int 0, .int 0, .null, .null] j := by
  intro j hj
  match j, hj with
  | 0, _ => rfl
  | 1, _ => rfl
  | 2, _ => rfl
  | 3, _ => rfl
  | 4, _ => rfl
  | 5, _ => rfl
  | 6, _ => rfl
  | 7, _ => rfl
  | 8, _ => rfl
  | 9, _ => rfl
  | 10, _ => rfl
  | 11, _ => rfl
  | 12, _ => rfl
  | 13, _ => rfl
  | 14, _ => rfl
  | 15, _ => rfl
  | 16, _ => rfl
  | 17, _ => rfl
  | 18, _ => rfl
  | 19, _ => rfl
  | 20, _ => rfl
  | 21, _ => rfl
  | 22, _ => rfl
  | 23, _ => rfl
  | 24, _ => rfl
  | 25, _ => rfl
  | 26, _ => rfl
  | 27, _ => rfl
  | 28, _ => rfl
  | 29, _ => rfl
  | 30, _ => rfl
  | 31, _ => rfl
  | j + 32, h => exact absurd h (by omega)
theorem hd_X0_init : yX0_init.cls ≠ "java/lang/invoke/MethodHandle" ∧ yX0_init.cls ≠ "java/lang/invoke/VarHandle" ∧ (parseMethodDescriptor yX0_init.desc).map (fun d => d.parameters.length) = some 2 := by decide +kernel
theorem hd_X0_accepts : yX0_accepts.cls ≠ "java/lang/invoke/MethodHandle" ∧ yX0_accepts.cls ≠ "java/lang/invoke/VarHandle" ∧ (parseMethodDescriptor yX0_accepts.desc).map (fun d => d.parameters.length) = some 2 := by decide +kernel
theorem hd_X0_copyRows : yX0_copyRows.cls ≠ "java/lang/invoke/MethodHandle" ∧ yX0_copyRows.cls ≠ "java/lang/invoke/VarHandle" ∧ (parseMethodDescriptor yX0_copyRows.desc).map (fun d => d.parameters.length) = some 2 := by decide +kernel
theorem hd_X0_total : yX0_total.cls ≠ "java/lang/invoke/MethodHandle" ∧ yX0_total.cls ≠ "java/lang/invoke/VarHandle" ∧ (parseMethodDescriptor yX0_total.desc).map (fun d => d.parameters.length) = some 1 := by decide +kernel
theorem hd_X0_isRow : yX0_isRow.cls ≠ "java/lang/invoke/MethodHandle" ∧ yX0_isRow.cls ≠ "java/lang/invoke/VarHandle" ∧ (parseMethodDescriptor yX0_isRow.desc).map (fun d => d.parameters.length) = some 2 := by decide +kernel
theorem hd_X0_readNode : yX0_readNode.cls ≠ "java/lang/invoke/MethodHandle" ∧ yX0_readNode.cls ≠ "java/lang/invoke/VarHandle" ∧ (parseMethodDescriptor yX0_readNode.desc).map (fun d => d.parameters.length) = some 1 := by decide +kernel
theorem hd_X0_readEntries : yX0_readEntries.cls ≠ "java/lang/invoke/MethodHandle" ∧ yX0_readEntries.cls ≠ "java/lang/invoke/VarHandle" ∧ (parseMethodDescriptor yX0_readEntries.desc).map (fun d => d.parameters.length) = some 1 := by decide +kernel
theorem hd_X0_readChildren : yX0_readChildren.cls ≠ "java/lang/invoke/MethodHandle" ∧ yX0_readChildren.cls ≠ "java/lang/invoke/VarHandle" ∧ (parseMethodDescriptor yX0_readChildren.desc).map (fun d => d.parameters.length) = some 2 := by decide +kernel
theorem hd_X0_readChild : yX0_readChild.cls ≠ "java/lang/invoke/MethodHandle" ∧ yX0_readChild.cls ≠ "java/lang/invoke/VarHandle" ∧ (parseMethodDescriptor yX0_readChild.desc).map (fun d => d.parameters.length) = some 1 := by decide +kernel
theorem hd_X0_readLeftOut : yX0_readLeftOut.cls ≠ "java/lang/invoke/MethodHandle" ∧ yX0_readLeftOut.cls ≠ "java/lang/invoke/VarHandle" ∧ (parseMethodDescriptor yX0_readLeftOut.desc).map (fun d => d.parameters.length) = some 1 := by decide +kernel
theorem hd_X0_hasMore : yX0_hasMore.cls ≠ "java/lang/invoke/MethodHandle" ∧ yX0_hasMore.cls ≠ "java/lang/invoke/VarHandle" ∧ (parseMethodDescriptor yX0_hasMore.desc).map (fun d => d.parameters.length) = some 1 := by decide +kernel
theorem hd_X0_next : yX0_next.cls ≠ "java/lang/invoke/MethodHandle" ∧ yX0_next.cls ≠ "java/lang/invoke/VarHandle" ∧ (parseMethodDescriptor yX0_next.desc).map (fun d => d.parameters.length) = some 0 := by decide +kernel
theorem hd_X0_note : yX0_note.cls ≠ "java/lang/invoke/MethodHandle" ∧ yX0_note.cls ≠ "java/lang/invoke/VarHandle" ∧ (parseMethodDescriptor yX0_note.desc).map (fun d => d.parameters.length) = some 3 := by decide +kernel
theorem hd_X0_noteChild : yX0_noteChild.cls ≠ "java/lang/invoke/MethodHandle" ∧ yX0_noteChild.cls ≠ "java/lang/invoke/VarHandle" ∧ (parseMethodDescriptor yX0_noteChild.desc).map (fun d => d.parameters.length) = some 1 := by decide +kernel
theorem hd_X0_keysRise : yX0_keysRise.cls ≠ "java/lang/invoke/MethodHandle" ∧ yX0_keysRise.cls ≠ "java/lang/invoke/VarHandle" ∧ (parseMethodDescriptor yX0_keysRise.desc).map (fun d => d.parameters.length) = some 0 := by decide +kernel
theorem hd_X0_leftOutFits : yX0_leftOutFits.cls ≠ "java/lang/invoke/MethodHandle" ∧ yX0_leftOutFits.cls ≠ "java/lang/invoke/VarHandle" ∧ (parseMethodDescriptor yX0_leftOutFits.desc).map (fun d => d.parameters.length) = some 1 := by decide +kernel
theorem hd_X0_shownFits : yX0_shownFits.cls ≠ "java/lang/invoke/MethodHandle" ∧ yX0_shownFits.cls ≠ "java/lang/invoke/VarHandle" ∧ (parseMethodDescriptor yX0_shownFits.desc).map (fun d => d.parameters.length) = some 1 := by decide +kernel
theorem hd_X0_spanFrom : yX0_spanFrom.cls ≠ "java/lang/invoke/MethodHandle" ∧ yX0_spanFrom.cls ≠ "java/lang/invoke/VarHandle" ∧ (parseMethodDescriptor yX0_spanFrom.desc).map (fun d => d.parameters.length) = some 1 := by decide +kernel
theorem hd_X0_spanEnd : yX0_spanEnd.cls ≠ "java/lang/invoke/MethodHandle" ∧ yX0_spanEnd.cls ≠ "java/lang/invoke/VarHandle" ∧ (parseMethodDescriptor yX0_spanEnd.desc).map (fun d => d.parameters.length) = some 1 := by decide +kernel
theorem hd_X1_init : yX1_init.cls ≠ "java/lang/invoke/MethodHandle" ∧ yX1_init.cls ≠ "java/lang/invoke/VarHandle" ∧ (parseMethodDescriptor yX1_init.desc).map (fun d => d.parameters.length) = some 2 := by decide +kernel
theorem hd_X1_slotOf : yX1_slotOf.cls ≠ "java/lang/invoke/MethodHandle" ∧ yX1_slotOf.cls ≠ "java/lang/invoke/VarHandle" ∧ (parseMethodDescriptor yX1_slotOf.desc).map (fun d => d.parameters.length) = some 1 := by decide +kernel
theorem hd_X1_hasAt : yX1_hasAt.cls ≠ "java/lang/invoke/MethodHandle" ∧ yX1_hasAt.cls ≠ "java/lang/invoke/VarHandle" ∧ (parseMethodDescriptor yX1_hasAt.desc).map (fun d => d.parameters.length) = some 2 := by decide +kernel
theorem hd_X1_childFor : yX1_childFor.cls ≠ "java/lang/invoke/MethodHandle" ∧ yX1_childFor.cls ≠ "java/lang/invoke/VarHandle" ∧ (parseMethodDescriptor yX1_childFor.desc).map (fun d => d.parameters.length) = some 1 := by decide +kernel
theorem hd_X1_copySlot : yX1_copySlot.cls ≠ "java/lang/invoke/MethodHandle" ∧ yX1_copySlot.cls ≠ "java/lang/invoke/VarHandle" ∧ (parseMethodDescriptor yX1_copySlot.desc).map (fun d => d.parameters.length) = some 3 := by decide +kernel
theorem hd_X1_openSlot : yX1_openSlot.cls ≠ "java/lang/invoke/MethodHandle" ∧ yX1_openSlot.cls ≠ "java/lang/invoke/VarHandle" ∧ (parseMethodDescriptor yX1_openSlot.desc).map (fun d => d.parameters.length) = some 1 := by decide +kernel
theorem hd_X1_closeSlot : yX1_closeSlot.cls ≠ "java/lang/invoke/MethodHandle" ∧ yX1_closeSlot.cls ≠ "java/lang/invoke/VarHandle" ∧ (parseMethodDescriptor yX1_closeSlot.desc).map (fun d => d.parameters.length) = some 1 := by decide +kernel
theorem hd_X1_moveSlot : yX1_moveSlot.cls ≠ "java/lang/invoke/MethodHandle" ∧ yX1_moveSlot.cls ≠ "java/lang/invoke/VarHandle" ∧ (parseMethodDescriptor yX1_moveSlot.desc).map (fun d => d.parameters.length) = some 3 := by decide +kernel
theorem hd_X1_moveTail : yX1_moveTail.cls ≠ "java/lang/invoke/MethodHandle" ∧ yX1_moveTail.cls ≠ "java/lang/invoke/VarHandle" ∧ (parseMethodDescriptor yX1_moveTail.desc).map (fun d => d.parameters.length) = some 2 := by decide +kernel
theorem hd_X1_renew : yX1_renew.cls ≠ "java/lang/invoke/MethodHandle" ∧ yX1_renew.cls ≠ "java/lang/invoke/VarHandle" ∧ (parseMethodDescriptor yX1_renew.desc).map (fun d => d.parameters.length) = some 0 := by decide +kernel
theorem hd_X2_init : yX2_init.cls ≠ "java/lang/invoke/MethodHandle" ∧ yX2_init.cls ≠ "java/lang/invoke/VarHandle" ∧ (parseMethodDescriptor yX2_init.desc).map (fun d => d.parameters.length) = some 0 := by decide +kernel
theorem hd_X2_has : yX2_has.cls ≠ "java/lang/invoke/MethodHandle" ∧ yX2_has.cls ≠ "java/lang/invoke/VarHandle" ∧ (parseMethodDescriptor yX2_has.desc).map (fun d => d.parameters.length) = some 1 := by decide +kernel
theorem hd_X2_append : yX2_append.cls ≠ "java/lang/invoke/MethodHandle" ∧ yX2_append.cls ≠ "java/lang/invoke/VarHandle" ∧ (parseMethodDescriptor yX2_append.desc).map (fun d => d.parameters.length) = some 1 := by decide +kernel
theorem hd_X3_init : yX3_init.cls ≠ "java/lang/invoke/MethodHandle" ∧ yX3_init.cls ≠ "java/lang/invoke/VarHandle" ∧ (parseMethodDescriptor yX3_init.desc).map (fun d => d.parameters.length) = some 2 := by decide +kernel
theorem hd_X3_write : yX3_write.cls ≠ "java/lang/invoke/MethodHandle" ∧ yX3_write.cls ≠ "java/lang/invoke/VarHandle" ∧ (parseMethodDescriptor yX3_write.desc).map (fun d => d.parameters.length) = some 4 := by decide +kernel
theorem hd_X3_writeLeaf : yX3_writeLeaf.cls ≠ "java/lang/invoke/MethodHandle" ∧ yX3_writeLeaf.cls ≠ "java/lang/invoke/VarHandle" ∧ (parseMethodDescriptor yX3_writeLeaf.desc).map (fun d => d.parameters.length) = some 1 := by decide +kernel
theorem hd_X3_writeInner : yX3_writeInner.cls ≠ "java/lang/invoke/MethodHandle" ∧ yX3_writeInner.cls ≠ "java/lang/invoke/VarHandle" ∧ (parseMethodDescriptor yX3_writeInner.desc).map (fun d => d.parameters.length) = some 4 := by decide +kernel
theorem hd_X3_writeLeftOut : yX3_writeLeftOut.cls ≠ "java/lang/invoke/MethodHandle" ∧ yX3_writeLeftOut.cls ≠ "java/lang/invoke/VarHandle" ∧ (parseMethodDescriptor yX3_writeLeftOut.desc).map (fun d => d.parameters.length) = some 1 := by decide +kernel
theorem hd_X4_init : yX4_init.cls ≠ "java/lang/invoke/MethodHandle" ∧ yX4_init.cls ≠ "java/lang/invoke/VarHandle" ∧ (parseMethodDescriptor yX4_init.desc).map (fun d => d.parameters.length) = some 3 := by decide +kernel
theorem hd_X4_covers : yX4_covers.cls ≠ "java/lang/invoke/MethodHandle" ∧ yX4_covers.cls ≠ "java/lang/invoke/VarHandle" ∧ (parseMethodDescriptor yX4_covers.desc).map (fun d => d.parameters.length) = some 1 := by decide +kernel
theorem hd_X4_misses : yX4_misses.cls ≠ "java/lang/invoke/MethodHandle" ∧ yX4_misses.cls ≠ "java/lang/invoke/VarHandle" ∧ (parseMethodDescriptor yX4_misses.desc).map (fun d => d.parameters.length) = some 2 := by decide +kernel
theorem hd_X4_holds : yX4_holds.cls ≠ "java/lang/invoke/MethodHandle" ∧ yX4_holds.cls ≠ "java/lang/invoke/VarHandle" ∧ (parseMethodDescriptor yX4_holds.desc).map (fun d => d.parameters.length) = some 2 := by decide +kernel
theorem hd_X4_leavesOut : yX4_leavesOut.cls ≠ "java/lang/invoke/MethodHandle" ∧ yX4_leavesOut.cls ≠ "java/lang/invoke/VarHandle" ∧ (parseMethodDescriptor yX4_leavesOut.desc).map (fun d => d.parameters.length) = some 2 := by decide +kernel
theorem hd_X5_init : yX5_init.cls ≠ "java/lang/invoke/MethodHandle" ∧ yX5_init.cls ≠ "java/lang/invoke/VarHandle" ∧ (parseMethodDescriptor yX5_init.desc).map (fun d => d.parameters.length) = some 0 := by decide +kernel
theorem hd_X5_append : yX5_append.cls ≠ "java/lang/invoke/MethodHandle" ∧ yX5_append.cls ≠ "java/lang/invoke/VarHandle" ∧ (parseMethodDescriptor yX5_append.desc).map (fun d => d.parameters.length) = some 2 := by decide +kernel
theorem hd_X6_init : yX6_init.cls ≠ "java/lang/invoke/MethodHandle" ∧ yX6_init.cls ≠ "java/lang/invoke/VarHandle" ∧ (parseMethodDescriptor yX6_init.desc).map (fun d => d.parameters.length) = some 1 := by decide +kernel
theorem hd_X6_valueOf : yX6_valueOf.cls ≠ "java/lang/invoke/MethodHandle" ∧ yX6_valueOf.cls ≠ "java/lang/invoke/VarHandle" ∧ (parseMethodDescriptor yX6_valueOf.desc).map (fun d => d.parameters.length) = some 1 := by decide +kernel
theorem hd_X6_store : yX6_store.cls ≠ "java/lang/invoke/MethodHandle" ∧ yX6_store.cls ≠ "java/lang/invoke/VarHandle" ∧ (parseMethodDescriptor yX6_store.desc).map (fun d => d.parameters.length) = some 2 := by decide +kernel
theorem hd_X6_drop : yX6_drop.cls ≠ "java/lang/invoke/MethodHandle" ∧ yX6_drop.cls ≠ "java/lang/invoke/VarHandle" ∧ (parseMethodDescriptor yX6_drop.desc).map (fun d => d.parameters.length) = some 1 := by decide +kernel
theorem hd_X6_entriesFromTo : yX6_entriesFromTo.cls ≠ "java/lang/invoke/MethodHandle" ∧ yX6_entriesFromTo.cls ≠ "java/lang/invoke/VarHandle" ∧ (parseMethodDescriptor yX6_entriesFromTo.desc).map (fun d => d.parameters.length) = some 2 := by decide +kernel
theorem hd_X6_entriesBelow : yX6_entriesBelow.cls ≠ "java/lang/invoke/MethodHandle" ∧ yX6_entriesBelow.cls ≠ "java/lang/invoke/VarHandle" ∧ (parseMethodDescriptor yX6_entriesBelow.desc).map (fun d => d.parameters.length) = some 4 := by decide +kernel
theorem hd_X6_leafFor : yX6_leafFor.cls ≠ "java/lang/invoke/MethodHandle" ∧ yX6_leafFor.cls ≠ "java/lang/invoke/VarHandle" ∧ (parseMethodDescriptor yX6_leafFor.desc).map (fun d => d.parameters.length) = some 1 := by decide +kernel
theorem hd_X6_splitUpwards : yX6_splitUpwards.cls ≠ "java/lang/invoke/MethodHandle" ∧ yX6_splitUpwards.cls ≠ "java/lang/invoke/VarHandle" ∧ (parseMethodDescriptor yX6_splitUpwards.desc).map (fun d => d.parameters.length) = some 0 := by decide +kernel
theorem hd_X6_growRoot : yX6_growRoot.cls ≠ "java/lang/invoke/MethodHandle" ∧ yX6_growRoot.cls ≠ "java/lang/invoke/VarHandle" ∧ (parseMethodDescriptor yX6_growRoot.desc).map (fun d => d.parameters.length) = some 0 := by decide +kernel
theorem hd_X6_splitIfTooLarge : yX6_splitIfTooLarge.cls ≠ "java/lang/invoke/MethodHandle" ∧ yX6_splitIfTooLarge.cls ≠ "java/lang/invoke/VarHandle" ∧ (parseMethodDescriptor yX6_splitIfTooLarge.desc).map (fun d => d.parameters.length) = some 2 := by decide +kernel
theorem hd_X6_refillUpwards : yX6_refillUpwards.cls ≠ "java/lang/invoke/MethodHandle" ∧ yX6_refillUpwards.cls ≠ "java/lang/invoke/VarHandle" ∧ (parseMethodDescriptor yX6_refillUpwards.desc).map (fun d => d.parameters.length) = some 0 := by decide +kernel
theorem hd_X6_refill : yX6_refill.cls ≠ "java/lang/invoke/MethodHandle" ∧ yX6_refill.cls ≠ "java/lang/invoke/VarHandle" ∧ (parseMethodDescriptor yX6_refill.desc).map (fun d => d.parameters.length) = some 2 := by decide +kernel
theorem hd_X6_join : yX6_join.cls ≠ "java/lang/invoke/MethodHandle" ∧ yX6_join.cls ≠ "java/lang/invoke/VarHandle" ∧ (parseMethodDescriptor yX6_join.desc).map (fun d => d.parameters.length) = some 2 := by decide +kernel
theorem hd_X7_init : yX7_init.cls ≠ "java/lang/invoke/MethodHandle" ∧ yX7_init.cls ≠ "java/lang/invoke/VarHandle" ∧ (parseMethodDescriptor yX7_init.desc).map (fun d => d.parameters.length) = some 1 := by decide +kernel
theorem hd_X7_put : yX7_put.cls ≠ "java/lang/invoke/MethodHandle" ∧ yX7_put.cls ≠ "java/lang/invoke/VarHandle" ∧ (parseMethodDescriptor yX7_put.desc).map (fun d => d.parameters.length) = some 2 := by decide +kernel
theorem hd_X7_remove : yX7_remove.cls ≠ "java/lang/invoke/MethodHandle" ∧ yX7_remove.cls ≠ "java/lang/invoke/VarHandle" ∧ (parseMethodDescriptor yX7_remove.desc).map (fun d => d.parameters.length) = some 1 := by decide +kernel
theorem hd_X7_get : yX7_get.cls ≠ "java/lang/invoke/MethodHandle" ∧ yX7_get.cls ≠ "java/lang/invoke/VarHandle" ∧ (parseMethodDescriptor yX7_get.desc).map (fun d => d.parameters.length) = some 1 := by decide +kernel
theorem hd_X7_size : yX7_size.cls ≠ "java/lang/invoke/MethodHandle" ∧ yX7_size.cls ≠ "java/lang/invoke/VarHandle" ∧ (parseMethodDescriptor yX7_size.desc).map (fun d => d.parameters.length) = some 0 := by decide +kernel
theorem hd_X7_height : yX7_height.cls ≠ "java/lang/invoke/MethodHandle" ∧ yX7_height.cls ≠ "java/lang/invoke/VarHandle" ∧ (parseMethodDescriptor yX7_height.desc).map (fun d => d.parameters.length) = some 0 := by decide +kernel
theorem hd_X7_root : yX7_root.cls ≠ "java/lang/invoke/MethodHandle" ∧ yX7_root.cls ≠ "java/lang/invoke/VarHandle" ∧ (parseMethodDescriptor yX7_root.desc).map (fun d => d.parameters.length) = some 0 := by decide +kernel
theorem hd_X7_within : yX7_within.cls ≠ "java/lang/invoke/MethodHandle" ∧ yX7_within.cls ≠ "java/lang/invoke/VarHandle" ∧ (parseMethodDescriptor yX7_within.desc).map (fun d => d.parameters.length) = some 2 := by decide +kernel
theorem hd_X7_prove : yX7_prove.cls ≠ "java/lang/invoke/MethodHandle" ∧ yX7_prove.cls ≠ "java/lang/invoke/VarHandle" ∧ (parseMethodDescriptor yX7_prove.desc).map (fun d => d.parameters.length) = some 3 := by decide +kernel
theorem hd_X7_token : yX7_token.cls ≠ "java/lang/invoke/MethodHandle" ∧ yX7_token.cls ≠ "java/lang/invoke/VarHandle" ∧ (parseMethodDescriptor yX7_token.desc).map (fun d => d.parameters.length) = some 1 := by decide +kernel
theorem hd_X7_alter : yX7_alter.cls ≠ "java/lang/invoke/MethodHandle" ∧ yX7_alter.cls ≠ "java/lang/invoke/VarHandle" ∧ (parseMethodDescriptor yX7_alter.desc).map (fun d => d.parameters.length) = some 2 := by decide +kernel
theorem hd_X7_trim : yX7_trim.cls ≠ "java/lang/invoke/MethodHandle" ∧ yX7_trim.cls ≠ "java/lang/invoke/VarHandle" ∧ (parseMethodDescriptor yX7_trim.desc).map (fun d => d.parameters.length) = some 1 := by decide +kernel
theorem hd_X7_check : yX7_check.cls ≠ "java/lang/invoke/MethodHandle" ∧ yX7_check.cls ≠ "java/lang/invoke/VarHandle" ∧ (parseMethodDescriptor yX7_check.desc).map (fun d => d.parameters.length) = some 3 := by decide +kernel
theorem hd_X7_count : yX7_count.cls ≠ "java/lang/invoke/MethodHandle" ∧ yX7_count.cls ≠ "java/lang/invoke/VarHandle" ∧ (parseMethodDescriptor yX7_count.desc).map (fun d => d.parameters.length) = some 3 := by decide +kernel
theorem hd_X7_row : yX7_row.cls ≠ "java/lang/invoke/MethodHandle" ∧ yX7_row.cls ≠ "java/lang/invoke/VarHandle" ∧ (parseMethodDescriptor yX7_row.desc).map (fun d => d.parameters.length) = some 2 := by decide +kernel
theorem hd_X7_digest : yX7_digest.cls ≠ "java/lang/invoke/MethodHandle" ∧ yX7_digest.cls ≠ "java/lang/invoke/VarHandle" ∧ (parseMethodDescriptor yX7_digest.desc).map (fun d => d.parameters.length) = some 4 := by decide +kernel
theorem hd_X7_mix : yX7_mix.cls ≠ "java/lang/invoke/MethodHandle" ∧ yX7_mix.cls ≠ "java/lang/invoke/VarHandle" ∧ (parseMethodDescriptor yX7_mix.desc).map (fun d => d.parameters.length) = some 2 := by decide +kernel
theorem hd_X8_init : yX8_init.cls ≠ "java/lang/invoke/MethodHandle" ∧ yX8_init.cls ≠ "java/lang/invoke/VarHandle" ∧ (parseMethodDescriptor yX8_init.desc).map (fun d => d.parameters.length) = some 1 := by decide +kernel
theorem hd_X8_upTo : yX8_upTo.cls ≠ "java/lang/invoke/MethodHandle" ∧ yX8_upTo.cls ≠ "java/lang/invoke/VarHandle" ∧ (parseMethodDescriptor yX8_upTo.desc).map (fun d => d.parameters.length) = some 1 := by decide +kernel
theorem hd_X8_find : yX8_find.cls ≠ "java/lang/invoke/MethodHandle" ∧ yX8_find.cls ≠ "java/lang/invoke/VarHandle" ∧ (parseMethodDescriptor yX8_find.desc).map (fun d => d.parameters.length) = some 1 := by decide +kernel
theorem hd_X8_holder : yX8_holder.cls ≠ "java/lang/invoke/MethodHandle" ∧ yX8_holder.cls ≠ "java/lang/invoke/VarHandle" ∧ (parseMethodDescriptor yX8_holder.desc).map (fun d => d.parameters.length) = some 2 := by decide +kernel
theorem hd_X8_placeIn : yX8_placeIn.cls ≠ "java/lang/invoke/MethodHandle" ∧ yX8_placeIn.cls ≠ "java/lang/invoke/VarHandle" ∧ (parseMethodDescriptor yX8_placeIn.desc).map (fun d => d.parameters.length) = some 3 := by decide +kernel
theorem hd_X8_insertNode : yX8_insertNode.cls ≠ "java/lang/invoke/MethodHandle" ∧ yX8_insertNode.cls ≠ "java/lang/invoke/VarHandle" ∧ (parseMethodDescriptor yX8_insertNode.desc).map (fun d => d.parameters.length) = some 3 := by decide +kernel
theorem hd_X8_removeNode : yX8_removeNode.cls ≠ "java/lang/invoke/MethodHandle" ∧ yX8_removeNode.cls ≠ "java/lang/invoke/VarHandle" ∧ (parseMethodDescriptor yX8_removeNode.desc).map (fun d => d.parameters.length) = some 2 := by decide +kernel
theorem hd_X8_splitUp : yX8_splitUp.cls ≠ "java/lang/invoke/MethodHandle" ∧ yX8_splitUp.cls ≠ "java/lang/invoke/VarHandle" ∧ (parseMethodDescriptor yX8_splitUp.desc).map (fun d => d.parameters.length) = some 1 := by decide +kernel
theorem hd_X8_put : yX8_put.cls ≠ "java/lang/invoke/MethodHandle" ∧ yX8_put.cls ≠ "java/lang/invoke/VarHandle" ∧ (parseMethodDescriptor yX8_put.desc).map (fun d => d.parameters.length) = some 2 := by decide +kernel
theorem hd_X8_settle : yX8_settle.cls ≠ "java/lang/invoke/MethodHandle" ∧ yX8_settle.cls ≠ "java/lang/invoke/VarHandle" ∧ (parseMethodDescriptor yX8_settle.desc).map (fun d => d.parameters.length) = some 3 := by decide +kernel
theorem hd_X8_remove : yX8_remove.cls ≠ "java/lang/invoke/MethodHandle" ∧ yX8_remove.cls ≠ "java/lang/invoke/VarHandle" ∧ (parseMethodDescriptor yX8_remove.desc).map (fun d => d.parameters.length) = some 1 := by decide +kernel
theorem hd_X8_get : yX8_get.cls ≠ "java/lang/invoke/MethodHandle" ∧ yX8_get.cls ≠ "java/lang/invoke/VarHandle" ∧ (parseMethodDescriptor yX8_get.desc).map (fun d => d.parameters.length) = some 1 := by decide +kernel
theorem hd_X8_size : yX8_size.cls ≠ "java/lang/invoke/MethodHandle" ∧ yX8_size.cls ≠ "java/lang/invoke/VarHandle" ∧ (parseMethodDescriptor yX8_size.desc).map (fun d => d.parameters.length) = some 0 := by decide +kernel
theorem hd_X8_height : yX8_height.cls ≠ "java/lang/invoke/MethodHandle" ∧ yX8_height.cls ≠ "java/lang/invoke/VarHandle" ∧ (parseMethodDescriptor yX8_height.desc).map (fun d => d.parameters.length) = some 0 := by decide +kernel
theorem hd_X8_within : yX8_within.cls ≠ "java/lang/invoke/MethodHandle" ∧ yX8_within.cls ≠ "java/lang/invoke/VarHandle" ∧ (parseMethodDescriptor yX8_within.desc).map (fun d => d.parameters.length) = some 2 := by decide +kernel
theorem hd_X8_add : yX8_add.cls ≠ "java/lang/invoke/MethodHandle" ∧ yX8_add.cls ≠ "java/lang/invoke/VarHandle" ∧ (parseMethodDescriptor yX8_add.desc).map (fun d => d.parameters.length) = some 2 := by decide +kernel
theorem hd_X8_work : yX8_work.cls ≠ "java/lang/invoke/MethodHandle" ∧ yX8_work.cls ≠ "java/lang/invoke/VarHandle" ∧ (parseMethodDescriptor yX8_work.desc).map (fun d => d.parameters.length) = some 0 := by decide +kernel
theorem hd_X8_workNode : yX8_workNode.cls ≠ "java/lang/invoke/MethodHandle" ∧ yX8_workNode.cls ≠ "java/lang/invoke/VarHandle" ∧ (parseMethodDescriptor yX8_workNode.desc).map (fun d => d.parameters.length) = some 3 := by decide +kernel
theorem hd_X8_root : yX8_root.cls ≠ "java/lang/invoke/MethodHandle" ∧ yX8_root.cls ≠ "java/lang/invoke/VarHandle" ∧ (parseMethodDescriptor yX8_root.desc).map (fun d => d.parameters.length) = some 0 := by decide +kernel
theorem hd_X8_digest : yX8_digest.cls ≠ "java/lang/invoke/MethodHandle" ∧ yX8_digest.cls ≠ "java/lang/invoke/VarHandle" ∧ (parseMethodDescriptor yX8_digest.desc).map (fun d => d.parameters.length) = some 4 := by decide +kernel
theorem hd_X8_tell : yX8_tell.cls ≠ "java/lang/invoke/MethodHandle" ∧ yX8_tell.cls ≠ "java/lang/invoke/VarHandle" ∧ (parseMethodDescriptor yX8_tell.desc).map (fun d => d.parameters.length) = some 1 := by decide +kernel
theorem hd_X8_isLeft : yX8_isLeft.cls ≠ "java/lang/invoke/MethodHandle" ∧ yX8_isLeft.cls ≠ "java/lang/invoke/VarHandle" ∧ (parseMethodDescriptor yX8_isLeft.desc).map (fun d => d.parameters.length) = some 5 := by decide +kernel
theorem hd_X8_firstChild : yX8_firstChild.cls ≠ "java/lang/invoke/MethodHandle" ∧ yX8_firstChild.cls ≠ "java/lang/invoke/VarHandle" ∧ (parseMethodDescriptor yX8_firstChild.desc).map (fun d => d.parameters.length) = some 2 := by decide +kernel
theorem hd_X8_prove : yX8_prove.cls ≠ "java/lang/invoke/MethodHandle" ∧ yX8_prove.cls ≠ "java/lang/invoke/VarHandle" ∧ (parseMethodDescriptor yX8_prove.desc).map (fun d => d.parameters.length) = some 3 := by decide +kernel
theorem hd_X8_tellNode : yX8_tellNode.cls ≠ "java/lang/invoke/MethodHandle" ∧ yX8_tellNode.cls ≠ "java/lang/invoke/VarHandle" ∧ (parseMethodDescriptor yX8_tellNode.desc).map (fun d => d.parameters.length) = some 2 := by decide +kernel
theorem hd_X8_token : yX8_token.cls ≠ "java/lang/invoke/MethodHandle" ∧ yX8_token.cls ≠ "java/lang/invoke/VarHandle" ∧ (parseMethodDescriptor yX8_token.desc).map (fun d => d.parameters.length) = some 1 := by decide +kernel
theorem hd_X8_alter : yX8_alter.cls ≠ "java/lang/invoke/MethodHandle" ∧ yX8_alter.cls ≠ "java/lang/invoke/VarHandle" ∧ (parseMethodDescriptor yX8_alter.desc).map (fun d => d.parameters.length) = some 2 := by decide +kernel
theorem hd_X8_trim : yX8_trim.cls ≠ "java/lang/invoke/MethodHandle" ∧ yX8_trim.cls ≠ "java/lang/invoke/VarHandle" ∧ (parseMethodDescriptor yX8_trim.desc).map (fun d => d.parameters.length) = some 1 := by decide +kernel
theorem hd_X8_there : yX8_there.cls ≠ "java/lang/invoke/MethodHandle" ∧ yX8_there.cls ≠ "java/lang/invoke/VarHandle" ∧ (parseMethodDescriptor yX8_there.desc).map (fun d => d.parameters.length) = some 1 := by decide +kernel
theorem hd_X8_rises : yX8_rises.cls ≠ "java/lang/invoke/MethodHandle" ∧ yX8_rises.cls ≠ "java/lang/invoke/VarHandle" ∧ (parseMethodDescriptor yX8_rises.desc).map (fun d => d.parameters.length) = some 1 := by decide +kernel
theorem hd_X8_readLeaf : yX8_readLeaf.cls ≠ "java/lang/invoke/MethodHandle" ∧ yX8_readLeaf.cls ≠ "java/lang/invoke/VarHandle" ∧ (parseMethodDescriptor yX8_readLeaf.desc).map (fun d => d.parameters.length) = some 3 := by decide +kernel
theorem hd_X8_readLeft : yX8_readLeft.cls ≠ "java/lang/invoke/MethodHandle" ∧ yX8_readLeft.cls ≠ "java/lang/invoke/VarHandle" ∧ (parseMethodDescriptor yX8_readLeft.desc).map (fun d => d.parameters.length) = some 1 := by decide +kernel
theorem hd_X8_depth : yX8_depth.cls ≠ "java/lang/invoke/MethodHandle" ∧ yX8_depth.cls ≠ "java/lang/invoke/VarHandle" ∧ (parseMethodDescriptor yX8_depth.desc).map (fun d => d.parameters.length) = some 1 := by decide +kernel
theorem hd_X8_waiting : yX8_waiting.cls ≠ "java/lang/invoke/MethodHandle" ∧ yX8_waiting.cls ≠ "java/lang/invoke/VarHandle" ∧ (parseMethodDescriptor yX8_waiting.desc).map (fun d => d.parameters.length) = some 0 := by decide +kernel
theorem hd_X8_have : yX8_have.cls ≠ "java/lang/invoke/MethodHandle" ∧ yX8_have.cls ≠ "java/lang/invoke/VarHandle" ∧ (parseMethodDescriptor yX8_have.desc).map (fun d => d.parameters.length) = some 1 := by decide +kernel
theorem hd_X8_readNode : yX8_readNode.cls ≠ "java/lang/invoke/MethodHandle" ∧ yX8_readNode.cls ≠ "java/lang/invoke/VarHandle" ∧ (parseMethodDescriptor yX8_readNode.desc).map (fun d => d.parameters.length) = some 1 := by decide +kernel
theorem hd_X8_read : yX8_read.cls ≠ "java/lang/invoke/MethodHandle" ∧ yX8_read.cls ≠ "java/lang/invoke/VarHandle" ∧ (parseMethodDescriptor yX8_read.desc).map (fun d => d.parameters.length) = some 0 := by decide +kernel
theorem hd_X8_sums : yX8_sums.cls ≠ "java/lang/invoke/MethodHandle" ∧ yX8_sums.cls ≠ "java/lang/invoke/VarHandle" ∧ (parseMethodDescriptor yX8_sums.desc).map (fun d => d.parameters.length) = some 0 := by decide +kernel
theorem hd_X8_sumInner : yX8_sumInner.cls ≠ "java/lang/invoke/MethodHandle" ∧ yX8_sumInner.cls ≠ "java/lang/invoke/VarHandle" ∧ (parseMethodDescriptor yX8_sumInner.desc).map (fun d => d.parameters.length) = some 1 := by decide +kernel
theorem hd_X8_spans : yX8_spans.cls ≠ "java/lang/invoke/MethodHandle" ∧ yX8_spans.cls ≠ "java/lang/invoke/VarHandle" ∧ (parseMethodDescriptor yX8_spans.desc).map (fun d => d.parameters.length) = some 0 := by decide +kernel
theorem hd_X8_isRight : yX8_isRight.cls ≠ "java/lang/invoke/MethodHandle" ∧ yX8_isRight.cls ≠ "java/lang/invoke/VarHandle" ∧ (parseMethodDescriptor yX8_isRight.desc).map (fun d => d.parameters.length) = some 4 := by decide +kernel
theorem hd_X8_rows : yX8_rows.cls ≠ "java/lang/invoke/MethodHandle" ∧ yX8_rows.cls ≠ "java/lang/invoke/VarHandle" ∧ (parseMethodDescriptor yX8_rows.desc).map (fun d => d.parameters.length) = some 3 := by decide +kernel
theorem hd_X8_check : yX8_check.cls ≠ "java/lang/invoke/MethodHandle" ∧ yX8_check.cls ≠ "java/lang/invoke/VarHandle" ∧ (parseMethodDescriptor yX8_check.desc).map (fun d => d.parameters.length) = some 3 := by decide +kernel
theorem hd_X8_count : yX8_count.cls ≠ "java/lang/invoke/MethodHandle" ∧ yX8_count.cls ≠ "java/lang/invoke/VarHandle" ∧ (parseMethodDescriptor yX8_count.desc).map (fun d => d.parameters.length) = some 3 := by decide +kernel
theorem hd_X8_row : yX8_row.cls ≠ "java/lang/invoke/MethodHandle" ∧ yX8_row.cls ≠ "java/lang/invoke/VarHandle" ∧ (parseMethodDescriptor yX8_row.desc).map (fun d => d.parameters.length) = some 2 := by decide +kernel
theorem hd_L_cell : yL_cell.cls ≠ "java/lang/invoke/MethodHandle" ∧ yL_cell.cls ≠ "java/lang/invoke/VarHandle" ∧ (parseMethodDescriptor yL_cell.desc).map (fun d => d.parameters.length) = some 2 := by decide +kernel
theorem hd_L_law : yL_law.cls ≠ "java/lang/invoke/MethodHandle" ∧ yL_law.cls ≠ "java/lang/invoke/VarHandle" ∧ (parseMethodDescriptor yL_law.desc).map (fun d => d.parameters.length) = some 1 := by decide +kernel
theorem g_new_int {p : Program} {l : Launch} {e : Env} {R : Room} {s : State} {m : MethodId} {args : Array Value} {below : List Frame} {meth : Method} {c : Code} {Q : State → Prop} {nL : Nat} {A : Nat → Prop} {D : va_G} {cT : Nat → ClassId} {cc : ByteArray} {own : String} {σ : sw_S} {ce sl pc : Nat} {lv : List (Nat × sw_U)} {st : List sw_U} (K : sw_C p s m args c cc nL own A D cT) {n : Int32} {N k : Nat} (hw : Cond.arrayClass .int ∈ sw_Tb) (h : sw_nl n k = some N) (hk : k ≤ 1000000) (h1 : ce + 1 ≤ R.cells) (h2 : sl + k ≤ R.slots) (hdg : decode cc pc = .ok (.newarray .int, 2)) (kk : sw_G p l e R s m args below meth c Q nL A D cT (sw_nw σ (sw_rI N)) (ce + 1) (sl + k) (pc + 2) lv (P_ (some σ.1) :: st)) : sw_G p l e R s m args below meth c Q nL A D cT σ ce sl pc lv (I_ n :: st) :=
  g_newa (atype := .int) (ty := .int) K 0 (fun n => (n, .inl fun _ => 0)) rfl rfl (fun _ => rfl) hw (fun _ _ => rfl) (Nat.le_of_ble_eq_true rfl) h hk h1 h2 hdg kk
theorem g_new_long {p : Program} {l : Launch} {e : Env} {R : Room} {s : State} {m : MethodId} {args : Array Value} {below : List Frame} {meth : Method} {c : Code} {Q : State → Prop} {nL : Nat} {A : Nat → Prop} {D : va_G} {cT : Nat → ClassId} {cc : ByteArray} {own : String} {σ : sw_S} {ce sl pc : Nat} {lv : List (Nat × sw_U)} {st : List sw_U} (K : sw_C p s m args c cc nL own A D cT) {n : Int32} {N k : Nat} (hw : Cond.arrayClass .long ∈ sw_Tb) (h : sw_nl n k = some N) (hk : k ≤ 1000000) (h1 : ce + 1 ≤ R.cells) (h2 : sl + k ≤ R.slots) (hdg : decode cc pc = .ok (.newarray .long, 2)) (kk : sw_G p l e R s m args below meth c Q nL A D cT (sw_nw σ (sw_rJ N)) (ce + 1) (sl + k) (pc + 2) lv (P_ (some σ.1) :: st)) : sw_G p l e R s m args below meth c Q nL A D cT σ ce sl pc lv (I_ n :: st) :=
  g_newa (atype := .long) (ty := .long) K 1 (fun n => (n, .inr (.inl fun _ => 0))) rfl rfl (fun _ => rfl) hw (fun _ _ => rfl) (Nat.le_of_ble_eq_true rfl) h hk h1 h2 hdg kk
theorem g_new_boolean {p : Program} {l : Launch} {e : Env} {R : Room} {s : State} {m : MethodId} {args : Array Value} {below : List Frame} {meth : Method} {c : Code} {Q : State → Prop} {nL : Nat} {A : Nat → Prop} {D : va_G} {cT : Nat → ClassId} {cc : ByteArray} {own : String} {σ : sw_S} {ce sl pc : Nat} {lv : List (Nat × sw_U)} {st : List sw_U} (K : sw_C p s m args c cc nL own A D cT) {n : Int32} {N k : Nat} (hw : Cond.arrayClass .boolean ∈ sw_Tb) (h : sw_nl n k = some N) (hk : k ≤ 1000000) (h1 : ce + 1 ≤ R.cells) (h2 : sl + k ≤ R.slots) (hdg : decode cc pc = .ok (.newarray .boolean, 2)) (kk : sw_G p l e R s m args below meth c Q nL A D cT (sw_nw σ (sw_rZ N)) (ce + 1) (sl + k) (pc + 2) lv (P_ (some σ.1) :: st)) : sw_G p l e R s m args below meth c Q nL A D cT σ ce sl pc lv (I_ n :: st) :=
  g_newa (atype := .boolean) (ty := .boolean) K 2 (fun n => (n, .inl fun _ => 0)) rfl rfl (fun _ => rfl) hw (fun _ _ => rfl) (Nat.le_of_ble_eq_true rfl) h hk h1 h2 hdg kk
theorem g_lookup {p : Program} {l : Launch} {e : Env} {R : Room} {s : State} {m : MethodId} {args : Array Value} {below : List Frame} {meth : Method} {c : Code} {Q : State → Prop} {nL : Nat} {A : Nat → Prop} {D : va_G} {cT : Nat → ClassId} {cc : ByteArray} {own : String} {σ : sw_S} {ce sl pc : Nat} {lv : List (Nat × sw_U)} {st : List sw_U} (K : sw_C p s m args c cc nL own A D cT) {dflt : Int} {ps : Array (Int × Int)} {len : Nat} {x : Int32} {off : Int} (tgt : Nat) (hdg : decode cc pc = .ok (.lookupswitch dflt ps, len)) (hp : (ps.toList.zip (ps.toList.drop 1)).all (fun (a, next) => a.1 < next.1) = true) (ho : Op.lookupswitch.offset ps.toList dflt x.toInt = off) (ht : (pc : Int) + off = (tgt : Int)) (kk : sw_G p l e R s m args below meth c Q nL A D cT σ ce sl tgt lv st) : sw_G p l e R s m args below meth c Q nL A D cT σ ce sl pc lv (I_ x :: st) := by
  intro H locs ls hl hP hD hS
  exact lv_lookup K.1.1 K.1.2.1 hdg hp ho ht (kk H locs ls hl hP hD hS)
