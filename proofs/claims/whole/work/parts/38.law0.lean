/-! THE LAW'S OWN ROWS: two stores beside one another, the script -/
def sw_j (n : Nat) (f g : Nat → Option sw_E) : sw_S := (n, fun a => (f a).or (g a))
def sw_dj (n : Nat) (f g : Nat → Option sw_E) : Prop := (∀ a, f a = none ∨ g a = none) ∧ (∀ a x, f a = some x → a < n) ∧ ∀ a x, g a = some x → a < n
theorem sw_dj.symm {n : Nat} {f g : Nat → Option sw_E} (h : sw_dj n f g) : sw_dj n g f := ⟨fun a => (h.1 a).symm, h.2.2, h.2.1⟩
theorem sw_j_comm {n : Nat} {f g : Nat → Option sw_E} (h : sw_dj n f g) : sw_j n f g = sw_j n g f := by
  unfold sw_j
  congr 1
  funext a
  rcases h.1 a with h | h <;> simp [h]
theorem sw_j_l {n : Nat} {f g : Nat → Option sw_E} {a : Nat} {x : sw_E} (h : f a = some x) : (sw_j n f g).2 a = some x := by simp [sw_j, h]
theorem sw_j_r {n : Nat} {f g : Nat → Option sw_E} {a : Nat} {x : sw_E} (hd : sw_dj n f g) (h : g a = some x) : (sw_j n f g).2 a = some x := by
  rcases hd.1 a with h1 | h1
  · simp [sw_j, h1, h]
  · rw [h] at h1; cases h1
theorem sw_j_or {n : Nat} {f g : Nat → Option sw_E} {a : Nat} {x : sw_E} (h : (sw_j n f g).2 a = some x) : f a = some x ∨ (f a = none ∧ g a = some x) := by
  simp only [sw_j] at h
  cases hf : f a with
  | none => rw [hf] at h; exact Or.inr ⟨rfl, h⟩
  | some y => rw [hf] at h; exact Or.inl h
/-- the frame rule of contracts -/
theorem sw_frame {l : Launch} {D : va_G} {cT : Nat → ClassId} {y : MethodName} {b : ByteArray} {k fr lo mc ms n : Nat} {r : Option FieldType} {f g : Nat → Option sw_E} {av : List sw_U} {o : Option sw_U} {σ1 : sw_S} (hM : sw_M l D cT y b k r fr lo mc ms (n, f) av o σ1) (hd : sw_dj n f g) :
    Met l y (sw_w y b k r) (sw_R fr mc ms lo) (sw_Pc D cT (sw_j n f g) av) (fun a st oc t => sw_Q o D cT (sw_j n f g) (sw_j σ1.1 σ1.2 g) a st oc t ∧ sw_dj σ1.1 σ1.2 g) mc ms (sw_A (sw_j n f g)) := by
  intro p e ha hc hk s m args below hfm happ hP hK
  obtain ⟨hav, hH, hKK⟩ := hP
  have hH1 : sw_H D cT (n, f) s.heap := ⟨hH.1, fun a x hx => hH.2 a x (sw_j_l hx)⟩
  have hsub : ∀ q, sw_A (n, f) q → sw_A (sw_j n f g) q := fun q h => h.elim (fun ⟨x, hx⟩ => Or.inl ⟨x, sw_j_l hx⟩) (fun h => Or.inr h)
  have hout : ∀ a x, g a = some x → ¬ sw_A (n, f) a := by
    intro a x hx h
    rcases h with ⟨z, hz⟩ | h
    · rcases hd.1 a with h1 | h1
      · have hz' : f a = some z := hz
        rw [h1] at hz'; cases hz'
      · rw [hx] at h1; cases h1
    · exact absurd (hd.2.2 a x hx) (Nat.not_lt.mpr h)
  obtain ⟨N, oc, h1, h2, h3, ⟨h4, h5, h6, h7⟩, L, h8, h9⟩ := hM p e ha hc hk s m args below hfm happ ⟨hav, hH1, hKK⟩ trivial
  refine ⟨N, oc, h1, h2, h3, ⟨⟨h4, ⟨h5.1, ?_⟩, ?_, h7.1, ?_⟩, ?_, ?_, ?_⟩, L, h8, fun q hq => hsub _ (h9 q hq)⟩
  · intro a x hx
    rcases sw_j_or hx with hx | ⟨-, hx⟩
    · exact h5.2 a x hx
    · have hlt : a < s.heap.size := by rw [hH.1]; exact hd.2.2 a x hx
      exact (hH.2 a x (sw_j_r hd hx)).kept (h7.2 a hlt (hout a x hx))
  · intro a x hx
    rcases sw_j_or hx with hx | ⟨-, hx⟩
    · exact hsub a (h6 a x hx)
    · exact Or.inl ⟨x, sw_j_r hd hx⟩
  · intro q hq hn
    exact h7.2 q hq (fun h => hn (hsub q h))
  · intro a
    cases h : σ1.2 a with
    | none => exact Or.inl rfl
    | some x =>
      right
      cases hg : g a with
      | none => rfl
      | some z => exact absurd (h6 a x h) (hout a z hg)
  · intro a x hx
    exact h5.lt hx
  · intro a x hx
    have hlt := hd.2.2 a x hx
    have hz := h7.1
    rw [hH.1, h5.1] at hz
    exact Nat.lt_of_lt_of_le hlt hz
def sw_sx (L : Nat) (xs : Nat → Int32) (i : Int32) : Option Int32 := (sw_ix i L).bind fun j => some (xs j)
/-- cell(script, 0) -/
def sw_c0 (L : Nat) (xs : Nat → Int32) : Int32 := if Int32.ofNat L ≤ 0 then 0 else xs 0
def sw_X (b L : Nat) (xs : Nat → Int32) (s : State) (A : Nat → Prop) : Prop := va_X b L xs s s.heap ∧ b < s.heap.size ∧ ¬ A b ∧ L < 2 ^ 31
set_option maxHeartbeats 4000000 in
set_option maxRecDepth 100000 in
theorem c_cell0 (l : Launch) (b L : Nat) (xs : Nat → Int32) (hL : L < 2 ^ 31) : Met l yL_cell (sw_w yL_cell cL_cell 2 (some .int)) (sw_R 0 0 0 0) (va_Pc [.ref b, .int 0] (fun U => va_X b L xs U U.heap ∧ b < U.heap.size)) (QcRead (sw_c0 L xs)) 0 0 (fun _ => False) := by
  refine Met.ofW (cc := cL_cell) (maxL := 2) (ret := (some .int)) (by decide) rfl ?_
  intro p e s m args below meth c s₁ B hml hv
  obtain ⟨rfl, hX, hbl⟩ := hv
  have hx := B.exec
  have hb := B.bytes
  have hlocks := B.notSynchronized
  have hS : va_S (fun _ => False) s.heap s.heap [] := va_S.rf
  have hl := lv_entry ([.ref b, .int 0]) (n := 2) (Nat.le_of_ble_eq_true rfl)
  rw [lg_entry_eq]
  generalize (lg_sl ([.ref b, .int 0]) ++ List.replicate (2 - (lg_sl ([.ref b, .int 0])).length) Slot.unset).toArray = ls at hl ⊢
  have hl : lv_has ls 2 [(0, .ref b), (1, .int 0)] := hl
  refine lv_iload_n hx hb dL_cell_0 rfl (lv_at hl 1 rfl) ?_
  refine lv_aload_n hx hb dL_cell_1 rfl (lv_at hl 0 rfl) ?_
  refine va_slen hx hb hX hbl (fun h => h) hS dL_cell_2 ?_
  refine lv_icmp_ge (tgt := 12) hx hb dL_cell_3 (by decide) (fun c1 => ?_) (fun c1 => ?_)
  · refine lv_iconst (v := 0) hx hb dL_cell_12 (by decide) ?_
    exact W.iret (v := 0) hx hb B.returns (fun t ht hW => ⟨by rw [sw_c0, if_pos c1], ht⟩) hS.2.2 dL_cell_13
  · have hL0 : 0 < L := by
      rcases Nat.eq_zero_or_pos L with h | h
      · subst h; exact absurd (by decide) c1
      · exact h
    refine lv_aload_n hx hb dL_cell_6 rfl (lv_at hl 0 rfl) ?_
    refine lv_iload_n hx hb dL_cell_7 rfl (lv_at hl 1 rfl) ?_
    refine va_sld hx hb hX hbl (fun h => h) hS (i := 0) (fun q => q.elim (fun q => absurd q (by decide)) (fun q => absurd hL0 (Nat.not_lt.mpr q))) dL_cell_8 ?_
    refine lv_goto (tgt := 13) hx hb dL_cell_9 (by decide) ?_
    exact W.iret (v := xs 0) hx hb B.returns (fun t ht hW => ⟨by rw [sw_c0, if_neg c1], ht⟩) hS.2.2 dL_cell_13
section LW
variable {p : Program} {l : Launch} {e : Env} {R : Room} {s : State} {m : MethodId} {args : Array Value} {below : List Frame} {meth : Method} {c : Code} {Q : State → Prop} {nL : Nat} {A : Nat → Prop} {D : va_G} {cT : Nat → ClassId} {cc : ByteArray} {own : String} {σ : sw_S} {ce sl pc : Nat} {lv : List (Nat × sw_U)} {st : List sw_U} {b L : Nat} {xs : Nat → Int32}
theorem g_slen (K : sw_C p s m args c cc nL own A D cT) (X : sw_X b L xs s A) (hdg : decode cc pc = .ok (.arraylength, 1)) (kk : sw_G p l e R s m args below meth c Q nL A D cT σ ce sl (pc + 1) lv (I_ (Int32.ofNat L) :: st)) : sw_G p l e R s m args below meth c Q nL A D cT σ ce sl pc lv (P_ (some b) :: st) := by
  intro H locs ls hl hP hD hS
  exact va_slen K.1.1 K.1.2.1 X.1 X.2.1 X.2.2.1 hS hdg (kk H locs ls hl hP hD hS)
theorem g_sld (K : sw_C p s m args c cc nL own A D cT) (X : sw_X b L xs s A) {i x : Int32} (h : sw_sx L xs i = some x) (hdg : decode cc pc = .ok (.iaload, 1)) (kk : sw_G p l e R s m args below meth c Q nL A D cT σ ce sl (pc + 1) lv (I_ x :: st)) : sw_G p l e R s m args below meth c Q nL A D cT σ ce sl pc lv (I_ i :: P_ (some b) :: st) := by
  intro H locs ls hl hP hD hS
  obtain ⟨j, h1, h2⟩ := Option.bind_eq_some_iff.mp h
  obtain ⟨h3, rfl⟩ := sw_ix_eq h1
  cases h2
  exact va_sld K.1.1 K.1.2.1 X.1 X.2.1 X.2.2.1 hS h3 hdg (kk H locs ls hl hP hD hS)
theorem g_cell (K : sw_C p s m args c cc nL RL A D cT) (X : sw_X b L xs s A) (hR : 1 ≤ R.frames ∧ 21 ≤ R.locals) (hrm : ((st.map sw_v).map fun v => v.category).sum ≤ 8) (hf : ce ≤ R.cells ∧ sl ≤ R.slots) (hcode : Cond.code yL_cell cL_cell 2 (some .int) ∈ sw_Tb) (hlk : Cond.methodLink RL 9 yL_cell ∈ sw_Tb) (hini : Cond.initialized yL_cell.cls ∈ sw_Tb) (hsta : Cond.static yL_cell ∈ sw_Tb) (hdg : decode cc pc = .ok (.invokestatic 9, 3)) (kk : sw_G p l e R s m args below meth c Q nL A D cT σ ce sl (pc + 3) lv (I_ (sw_c0 L xs) :: st)) : sw_G p l e R s m args below meth c Q nL A D cT σ ce sl pc lv (I_ 0 :: P_ (some b) :: st) := by
  intro H locs ls hl hP hD hS
  have hbH : H[b]? = s.heap[b]? := hS.2.1 b X.2.1 X.2.2.1
  have hXH : va_X b L xs s H := X.1.kept hbH
  have hbl : b < H.size := Nat.lt_of_lt_of_le X.2.1 hS.1
  refine W.callR (r := sw_c0 L xs) (a := #[Value.ref b, Value.int 0]) (W.runS (As := [.ref b, .int 0]) (rest := st.map sw_v) (n := 2) K.1 (c_cell0 l b L xs X.2.2.2) ⟨sw_callB (n := 2) K hcode hlk hini hd_L_cell ⟨hR.1, hR.2⟩, K.1.2.2.2.2 _ hsta⟩ ⟨fun a U g mk q => ⟨q.1, va_X.moved (u := U) (U := U.calling g mk a) (Vm.Alike.refl U.vm) q.2.1, q.2.2⟩, fun U hU hW => ⟨rfl, by rw [hU]; exact va_X.moved hW.alike hXH, by rw [hU]; exact hbl⟩⟩ rfl rfl hl.1 rfl (lv_room hrm) hdg ⟨hf.1, hf.2⟩) ?_
  exact kk H locs ls hl hP hD hS
theorem g_runJ (K : sw_C p s m args c cc nL own A D cT) {a : Array Value} {mc ms : Nat} {o : Option sw_U} {σ1 : sw_S} {st0 : List sw_U} {F : Prop} (hr : ∀ (H : Heap) (locs : List Loc) (ls : Array Slot), lv_has ls nL (lv.map sw_q) → sw_H D cT σ H → va_Run p l e R s m args below meth c H locs ce sl mc ms (F0 m pc ls (st0.map sw_v)) (st.map sw_v) (fun st oc t => sw_Q o D cT σ σ1 a st oc t ∧ F) (sw_A σ)) (kk : F → sw_G p l e R s m args below meth c Q nL A D cT σ1 (ce + mc) (sl + ms) (pc + 3) lv (o.toList ++ st)) : sw_G p l e R s m args below meth c Q nL A D cT σ ce sl pc lv st0 := by
  intro H locs ls hl hP hD hS
  intro T hT X
  have hA : ∀ q, sw_A σ q → A q := fun q h => h.elim (fun ⟨x, hx⟩ => hD q x hx) (fun h => K.2.2 q (Nat.le_trans hS.1 (by rw [hP.1]; exact h)))
  obtain ⟨v, st₀, t, T', L, h0, X', hL, e1, e2, ⟨⟨hv, hP1, hD1, hz, hk⟩, hF⟩, stp⟩ := hr H locs ls hl hP T hT X
  rw [h0] at hz hk
  have hv' : v = o.map sw_v := Outcome.returned.inj hv
  subst hv'
  obtain ⟨t2, a1, b1⟩ := kk hF T'.heap (locs ++ L) ls hl (by rw [e1]; exact hP1) (fun q x hx => hA q (hD1 q x hx)) (sw_F.S hS (by rw [e1]; exact hz) (fun q h1 h2 => by rw [e1]; exact hk q h1 h2) hA hL) T' rfl X'
  refine ⟨t2, stp t2 ?_, b1⟩
  cases o <;> exact a1
variable {y : MethodName} {bb : ByteArray} {n maxL fr lo mc ms index : Nat} {r : Option FieldType} {o : Option sw_U} {σ1 : sw_S} {st0 : List sw_U} {f g : Nat → Option sw_E}
/-- a call of a method of the first store's object -/
theorem g_callJ (K : sw_C p s m args c cc nL own A D cT) {a ci : Nat} {q : vw_C} {fs : List Value} (As : List sw_U) (hM : sw_M l D cT y bb maxL r fr lo mc ms (n, f) (P_ (some a) :: As) o σ1) (hdj : sw_dj n f g) (hob : sw_ob ci a (n, f) = some fs) (hci : vwCl[ci]? = some q) (hyc : y.cls = q.1) (hcode : Cond.code y bb maxL r ∈ sw_Tb) (hl : Cond.methodLink own index y ∈ sw_Tb) (hini : Cond.initialized y.cls ∈ sw_Tb) (him : Cond.instanceMethod y ∈ sw_Tb) (hse : Cond.selects y.cls y y ∈ sw_Tb) (hd : y.cls ≠ "java/lang/invoke/MethodHandle" ∧ y.cls ≠ "java/lang/invoke/VarHandle" ∧ (parseMethodDescriptor y.desc).map (fun d => d.parameters.length) = some As.length) (hR : fr + 1 ≤ R.frames ∧ 8 + (maxL + 11) + lo ≤ R.locals) (hst : st0 = As.reverse ++ P_ (some a) :: st) (hrm : ((st.map sw_v).map fun v => v.category).sum ≤ 8) (hf : ce + mc ≤ R.cells ∧ sl + ms ≤ R.slots) (hdg : decode cc pc = .ok (.invokevirtual index, 3)) (kk : sw_dj σ1.1 σ1.2 g → sw_G p l e R s m args below meth c Q nL A D cT (sw_j σ1.1 σ1.2 g) (ce + mc) (sl + ms) (pc + 3) lv (o.toList ++ st)) : sw_G p l e R s m args below meth c Q nL A D cT (sw_j n f g) ce sl pc lv st0 := by
  refine g_runJ (a := (Value.ref a :: As.map sw_v).toArray) K (fun H locs ls hl2 hP => ?_) kk
  have hts := K.1.2.2.2.2
  have hrecv : ∃ cellB : Cell, H[a]? = some cellB ∧ cellB.vm.isStatics = false ∧ s.vm.findClass y.cls = some cellB.cls := by
    obtain ⟨q', h1, cell, g1, g2, g3, -⟩ := hP.2 a _ (sw_j_l (sw_ob_eq hob))
    exact ⟨cell, g1, by rw [g3]; rfl, by rw [g2, hyc]; exact (K.2.1.1.1 ci q hci).2.1⟩
  subst hst
  exact va_runV (As := As.map sw_v) (b := a) K.1 (sw_frame hM hdj) ⟨sw_callB K hcode hl hini hd hR, hts _ him, hts _ hse⟩ ⟨sw_blind, hrecv, sw_preU K hP (As := P_ (some a) :: As)⟩ rfl (by simp) hl2.1 (by simp [sw_v, va_rf]) (lv_room hrm) hdg hf
theorem g_initJ (K : sw_C p s m args c cc nL own A D cT) {a : Nat} (As : List sw_U) (hM : sw_M l D cT y bb maxL none fr lo mc ms (n, f) (P_ (some a) :: As) none σ1) (hdj : sw_dj n f g) (hcode : Cond.code y bb maxL none ∈ sw_Tb) (hl : Cond.methodLink own index y ∈ sw_Tb) (hini : Cond.initialized y.cls ∈ sw_Tb) (him : Cond.instanceMethod y ∈ sw_Tb) (hy1 : y.name = "<init>") (hd : y.cls ≠ "java/lang/invoke/MethodHandle" ∧ y.cls ≠ "java/lang/invoke/VarHandle" ∧ (parseMethodDescriptor y.desc).map (fun d => d.parameters.length) = some As.length) (hR : fr + 1 ≤ R.frames ∧ 8 + (maxL + 11) + lo ≤ R.locals) (hst : st0 = As.reverse ++ P_ (some a) :: st) (hrm : ((st.map sw_v).map fun v => v.category).sum ≤ 8) (hf : ce + mc ≤ R.cells ∧ sl + ms ≤ R.slots) (hdg : decode cc pc = .ok (.invokespecial index, 3)) (kk : sw_dj σ1.1 σ1.2 g → sw_G p l e R s m args below meth c Q nL A D cT (sw_j σ1.1 σ1.2 g) (ce + mc) (sl + ms) (pc + 3) lv st) : sw_G p l e R s m args below meth c Q nL A D cT (sw_j n f g) ce sl pc lv st0 := by
  refine g_runJ (o := none) (a := (Value.ref a :: As.map sw_v).toArray) K (fun H locs ls hl2 hP => ?_) kk
  subst hst
  exact va_runI (As := As.map sw_v) (b := a) K.1 (sw_frame hM hdj) ⟨sw_callB K hcode hl hini hd hR, hy1, K.1.2.2.2.2 _ him⟩ ⟨sw_blind, sw_preU K hP (As := P_ (some a) :: As)⟩ rfl (by simp) hl2.1 (by simp [sw_v, va_rf]) (lv_room hrm) hdg hf
theorem g_swap (h : sw_dj n f g) (kk : sw_G p l e R s m args below meth c Q nL A D cT (sw_j n g f) ce sl pc lv st) : sw_G p l e R s m args below meth c Q nL A D cT (sw_j n f g) ce sl pc lv st := by
  rw [sw_j_comm h]; exact kk
theorem sw_j_nw (n : Nat) (f g : Nat → Option sw_E) (x : sw_E) : sw_nw (sw_j n f g) x = sw_j (sw_nw (n, f) x).1 (sw_nw (n, f) x).2 g := by
  unfold sw_nw sw_j
  congr 1
  funext a
  by_cases h : a = n
  · simp [h]
  · simp [h]
theorem sw_dj_nw {n : Nat} {f g : Nat → Option sw_E} (h : sw_dj n f g) (x : sw_E) : sw_dj (sw_nw (n, f) x).1 (sw_nw (n, f) x).2 g := by
  refine ⟨fun a => ?_, fun a y hy => ?_, fun a y hy => Nat.lt_succ_of_lt (h.2.2 a y hy)⟩
  · simp only [sw_nw]
    by_cases ha : a = n
    · right
      cases hg : g a with
      | none => rfl
      | some z => exact absurd (h.2.2 a z hg) (by omega)
    · rw [if_neg ha]; exact h.1 a
  · simp only [sw_nw] at hy ⊢
    by_cases ha : a = n
    · omega
    · rw [if_neg ha] at hy
      exact Nat.lt_succ_of_lt (h.2.1 a y hy)
end LW
