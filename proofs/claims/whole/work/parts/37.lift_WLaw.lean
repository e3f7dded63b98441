def b_L_cell_13 (t0 : Int32) (σ : sw_S) : Option Int32 :=
  some t0
set_option maxHeartbeats 4000000 in
set_option maxRecDepth 100000 in
theorem w_L_cell_13 {p : Program} {l : Launch} {e : Env} {s : State} {m : MethodId} {args : Array Value} {below : List Frame} {meth : Method} {c : Code} {Q : State → Prop} {A : Nat → Prop} {D : va_G} {cT : Nat → ClassId} {σ : sw_S}  {r : Int32}  (K : sw_C p s m args c cL_cell 2 RL A D cT) (hT : sw_Ti cL_cell p l e (sw_R 0 0 0 0) s m args below meth c Q 2 A D cT 0 0 σ r) (t0 : Int32) (ce sl : Nat) (h : b_L_cell_13 t0 σ = some r) (hce : ce + (0) ≤ 0) (hsl : sl + (0) ≤ 0) : sw_G p l e (sw_R 0 0 0 0) s m args below meth c Q 2 A D cT σ ce sl 13 [] [I_ t0] := by
  unfold b_L_cell_13 at h
  cases h
  exact hT _ _ 13 _ (by omega) (by omega) dL_cell_13
def f_L_cell (q1 : Nat) (q2 : Int32) (σ : sw_S) : Option Int32 :=
  (sw_len q1 σ).bind fun x1 =>
  (if x1 ≤ q2 then
  b_L_cell_13 0 σ
  else
  (sw_al 0 q1 q2 σ).bind fun x5 =>
  b_L_cell_13 x5 σ)
set_option maxHeartbeats 4000000 in
set_option maxRecDepth 100000 in
theorem c_L_cell  (l : Launch) (D : va_G) (cT : Nat → ClassId) (q1 : Nat) (q2 : Int32) (σ : sw_S) {r : Int32} (h : f_L_cell q1 q2 σ = some r) : sw_M l D cT yL_cell cL_cell 2 (some .int) 0 0 0 0 σ [P_ (some q1), I_ q2] (some (I_ r)) σ := by
  refine sw_met_i (by decide) (Nat.le_of_ble_eq_true rfl) (fun p e s m args below meth c A Q K hnm hT => ?_)
  have hce : 0 + 0 ≤ 0 := Nat.le_of_ble_eq_true rfl
  have hsl : 0 + 0 ≤ 0 := Nat.le_of_ble_eq_true rfl
  unfold f_L_cell at h
  change sw_G p l e (sw_R 0 0 0 0) s m args below meth c Q 2 A D cT σ 0 0 0 [(0, P_ (some q1)), (1, I_ q2)] []
  refine g_iload_n (pc := 0) K 1 rfl rfl dL_cell_0 ?_
  refine g_aload_n (pc := 1) K 0 rfl rfl dL_cell_1 ?_
  replace h := Option.bind_eq_some_iff.mp h
  obtain ⟨x1, e2, h⟩ := h
  refine g_alen (pc := 2) K e2 dL_cell_2 ?_
  refine g_icmp_ge (pc := 3) K 12 dL_cell_3 (by decide) (fun c3 => ?_) (fun c3 => ?_)
  · replace h := (if_pos c3).symm.trans h
    refine g_iconst (pc := 12) (v := 0) K dL_cell_12 (by decide) ?_
    refine g_sub K [] rfl ?_
    exact w_L_cell_13 K hT  _ _ _ h (by omega) (by omega)
  · replace h := (if_neg c3).symm.trans h
    refine g_aload_n (pc := 6) K 0 rfl rfl dL_cell_6 ?_
    refine g_iload_n (pc := 7) K 1 rfl rfl dL_cell_7 ?_
    replace h := Option.bind_eq_some_iff.mp h
    obtain ⟨x5, e4, h⟩ := h
    refine g_iald (pc := 8) K e4 dL_cell_8 ?_
    refine g_goto (pc := 9) (tgt := 13) K dL_cell_9 (by decide) ?_
    refine g_sub K [] rfl ?_
    exact w_L_cell_13 K hT  _ _ _ h (by omega) (by omega)
