def b_X0_isRow_27 (t0 : Int32) (σ : sw_S) : Option Int32 :=
  (sw_z t0).bind fun z1 =>
  some z1
set_option maxHeartbeats 4000000 in
set_option maxRecDepth 100000 in
theorem w_X0_isRow_27 {p : Program} {l : Launch} {e : Env} {s : State} {m : MethodId} {args : Array Value} {below : List Frame} {meth : Method} {c : Code} {Q : State → Prop} {A : Nat → Prop} {D : va_G} {cT : Nat → ClassId} {σ : sw_S}  {r : Int32}  (K : sw_C p s m args c cX0_isRow 3 RX0 A D cT) (hT : sw_Tz cX0_isRow p l e (sw_R 1 0 0 21) s m args below meth c Q 3 A D cT 0 0 σ r) (t0 : Int32) (ce sl : Nat) (h : b_X0_isRow_27 t0 σ = some r) (hce : ce + (0) ≤ 0) (hsl : sl + (0) ≤ 0) : sw_G p l e (sw_R 1 0 0 21) s m args below meth c Q 3 A D cT σ ce sl 27 [] [I_ t0] := by
  unfold b_X0_isRow_27 at h
  replace h := Option.bind_eq_some_iff.mp h
  obtain ⟨z1, e2, h⟩ := h
  obtain ⟨rfl, e3⟩ := sw_z_eq e2
  cases h
  exact hT _ _ 27 _ (by omega) (by omega) e3.1 dX0_isRow_27
def b_X0_isRow_26 (σ : sw_S) : Option Int32 :=
  b_X0_isRow_27 0 σ
set_option maxHeartbeats 4000000 in
set_option maxRecDepth 100000 in
theorem w_X0_isRow_26 {p : Program} {l : Launch} {e : Env} {s : State} {m : MethodId} {args : Array Value} {below : List Frame} {meth : Method} {c : Code} {Q : State → Prop} {A : Nat → Prop} {D : va_G} {cT : Nat → ClassId} {σ : sw_S}  {r : Int32}  (K : sw_C p s m args c cX0_isRow 3 RX0 A D cT) (hT : sw_Tz cX0_isRow p l e (sw_R 1 0 0 21) s m args below meth c Q 3 A D cT 0 0 σ r) (ce sl : Nat) (h : b_X0_isRow_26  σ = some r) (hce : ce + (0) ≤ 0) (hsl : sl + (0) ≤ 0) : sw_G p l e (sw_R 1 0 0 21) s m args below meth c Q 3 A D cT σ ce sl 26 [] [] := by
  unfold b_X0_isRow_26 at h
  refine g_iconst (pc := 26) (v := 0) K dX0_isRow_26 (by decide) ?_
  refine g_sub K [] rfl ?_
  exact w_X0_isRow_27 K hT  _ _ _ h (by omega) (by omega)
def f_X0_isRow (p0 : Nat) (q1 : Int32) (q2 : Nat) (σ : sw_S) : Option Int32 :=
  (sw_gR 0 p0 4 σ).bind fun r1 =>
  r1.bind fun a3 =>
  (sw_al 2 a3 q1 σ).bind fun x5 =>
  (if x5 = 0 then
  (sw_gR 0 p0 2 σ).bind fun r7 =>
  r7.bind fun a9 =>
  (sw_al 0 a9 q1 σ).bind fun x11 =>
  (sw_ob 4 q2 σ).bind fun f12 =>
  (f_X4_covers q2 x11 σ).bind fun x15 =>
  (if x15 = 0 then
  b_X0_isRow_26  σ
  else
  b_X0_isRow_27 1 σ)
  else
  b_X0_isRow_26  σ)
set_option maxHeartbeats 4000000 in
set_option maxRecDepth 100000 in
theorem c_X0_isRow  (l : Launch) (D : va_G) (cT : Nat → ClassId) (p0 : Nat) (q1 : Int32) (q2 : Nat) (σ : sw_S) {r : Int32} (h : f_X0_isRow p0 q1 q2 σ = some r) : sw_M l D cT yX0_isRow cX0_isRow 3 (some .boolean) 1 21 0 0 σ [P_ (some p0), I_ q1, P_ (some q2)] (some (I_ r)) σ := by
  refine sw_met_z (by decide) (Nat.le_of_ble_eq_true rfl) (fun p e s m args below meth c A Q K hnm hT => ?_)
  have hce : 0 + 0 ≤ 0 := Nat.le_of_ble_eq_true rfl
  have hsl : 0 + 0 ≤ 0 := Nat.le_of_ble_eq_true rfl
  unfold f_X0_isRow at h
  change sw_G p l e (sw_R 1 0 0 21) s m args below meth c Q 3 A D cT σ 0 0 0 [(0, P_ (some p0)), (1, I_ q1), (2, P_ (some q2))] []
  refine g_aload_n (pc := 0) K 0 rfl rfl dX0_isRow_0 ?_
  replace h := Option.bind_eq_some_iff.mp h
  obtain ⟨r1, e2, h⟩ := h
  refine g_getR (pc := 1) K cl_0 hin_X0 (k := 4) (by decide) tb_130 rfl e2 dX0_isRow_1 ?_
  refine g_iload_n (pc := 4) K 1 rfl rfl dX0_isRow_4 ?_
  replace h := Option.bind_eq_some_iff.mp h
  obtain ⟨a3, rfl, h⟩ := h
  replace h := Option.bind_eq_some_iff.mp h
  obtain ⟨x5, e4, h⟩ := h
  refine g_zald (pc := 5) K e4 dX0_isRow_5 ?_
  refine g_if_ne (pc := 6) K 26 dX0_isRow_6 (by decide) (fun c6 => ?_) (fun c6 => ?_)
  · replace h := (if_pos c6).symm.trans h
    refine g_aload_n (pc := 9) K 2 rfl rfl dX0_isRow_9 ?_
    refine g_aload_n (pc := 10) K 0 rfl rfl dX0_isRow_10 ?_
    replace h := Option.bind_eq_some_iff.mp h
    obtain ⟨r7, e8, h⟩ := h
    refine g_getR (pc := 11) K cl_0 hin_X0 (k := 2) (by decide) tb_128 rfl e8 dX0_isRow_11 ?_
    refine g_iload_n (pc := 14) K 1 rfl rfl dX0_isRow_14 ?_
    replace h := Option.bind_eq_some_iff.mp h
    obtain ⟨a9, rfl, h⟩ := h
    replace h := Option.bind_eq_some_iff.mp h
    obtain ⟨x11, e10, h⟩ := h
    refine g_iald (pc := 15) K e10 dX0_isRow_15 ?_
    replace h := Option.bind_eq_some_iff.mp h
    obtain ⟨f12, e13, h⟩ := h
    replace h := Option.bind_eq_some_iff.mp h
    obtain ⟨x15, e14, h⟩ := h
    refine g_callV (pc := 16) (st := []) K [I_ x11] (c_X4_covers _ _ _ _ _ _ e14) e13 cl_4 rfl tb_474 tb_471 tb_9 tb_472 tb_473 hd_X4_covers ⟨Nat.le_of_ble_eq_true rfl, Nat.le_of_ble_eq_true rfl⟩ rfl (sw_rm (Nat.le_of_ble_eq_true rfl)) ⟨by show _ ≤ 0; omega, by show _ ≤ 0; omega⟩ dX0_isRow_16 ?_
    refine g_if_eq (pc := 19) K 26 dX0_isRow_19 (by decide) (fun c16 => ?_) (fun c16 => ?_)
    · replace h := (if_pos c16).symm.trans h
      refine g_sub K [] rfl ?_
      exact w_X0_isRow_26 K hT   _ _ h (by omega) (by omega)
    · replace h := (if_neg c16).symm.trans h
      refine g_iconst (pc := 22) (v := 1) K dX0_isRow_22 (by decide) ?_
      refine g_goto (pc := 23) (tgt := 27) K dX0_isRow_23 (by decide) ?_
      refine g_sub K [] rfl ?_
      exact w_X0_isRow_27 K hT  _ _ _ h (by omega) (by omega)
  · replace h := (if_neg c6).symm.trans h
    refine g_sub K [] rfl ?_
    exact w_X0_isRow_26 K hT   _ _ h (by omega) (by omega)
