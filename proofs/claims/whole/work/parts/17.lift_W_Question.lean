def b_X4_covers_21 (t0 : Int32) (σ : sw_S) : Option Int32 :=
  (sw_z t0).bind fun z1 =>
  some z1
set_option maxHeartbeats 4000000 in
set_option maxRecDepth 100000 in
theorem w_X4_covers_21 {p : Program} {l : Launch} {e : Env} {s : State} {m : MethodId} {args : Array Value} {below : List Frame} {meth : Method} {c : Code} {Q : State → Prop} {A : Nat → Prop} {D : va_G} {cT : Nat → ClassId} {σ : sw_S}  {r : Int32}  (K : sw_C p s m args c cX4_covers 2 RX4 A D cT) (hT : sw_Tz cX4_covers p l e (sw_R 0 0 0 0) s m args below meth c Q 2 A D cT 0 0 σ r) (t0 : Int32) (ce sl : Nat) (h : b_X4_covers_21 t0 σ = some r) (hce : ce + (0) ≤ 0) (hsl : sl + (0) ≤ 0) : sw_G p l e (sw_R 0 0 0 0) s m args below meth c Q 2 A D cT σ ce sl 21 [] [I_ t0] := by
  unfold b_X4_covers_21 at h
  replace h := Option.bind_eq_some_iff.mp h
  obtain ⟨z1, e2, h⟩ := h
  obtain ⟨rfl, e3⟩ := sw_z_eq e2
  cases h
  exact hT _ _ 21 _ (by omega) (by omega) e3.1 dX4_covers_21
def b_X4_covers_20 (σ : sw_S) : Option Int32 :=
  b_X4_covers_21 0 σ
set_option maxHeartbeats 4000000 in
set_option maxRecDepth 100000 in
theorem w_X4_covers_20 {p : Program} {l : Launch} {e : Env} {s : State} {m : MethodId} {args : Array Value} {below : List Frame} {meth : Method} {c : Code} {Q : State → Prop} {A : Nat → Prop} {D : va_G} {cT : Nat → ClassId} {σ : sw_S}  {r : Int32}  (K : sw_C p s m args c cX4_covers 2 RX4 A D cT) (hT : sw_Tz cX4_covers p l e (sw_R 0 0 0 0) s m args below meth c Q 2 A D cT 0 0 σ r) (ce sl : Nat) (h : b_X4_covers_20  σ = some r) (hce : ce + (0) ≤ 0) (hsl : sl + (0) ≤ 0) : sw_G p l e (sw_R 0 0 0 0) s m args below meth c Q 2 A D cT σ ce sl 20 [] [] := by
  unfold b_X4_covers_20 at h
  refine g_iconst (pc := 20) (v := 0) K dX4_covers_20 (by decide) ?_
  refine g_sub K [] rfl ?_
  exact w_X4_covers_21 K hT  _ _ _ h (by omega) (by omega)
def f_X4_covers (p0 : Nat) (q1 : Int32) (σ : sw_S) : Option Int32 :=
  (sw_gI 4 p0 0 σ).bind fun x1 =>
  (if q1 < x1 then
  b_X4_covers_20  σ
  else
  (sw_gI 4 p0 1 σ).bind fun x4 =>
  (if x4 < q1 then
  b_X4_covers_20  σ
  else
  b_X4_covers_21 1 σ))
set_option maxHeartbeats 4000000 in
set_option maxRecDepth 100000 in
theorem c_X4_covers  (l : Launch) (D : va_G) (cT : Nat → ClassId) (p0 : Nat) (q1 : Int32) (σ : sw_S) {r : Int32} (h : f_X4_covers p0 q1 σ = some r) : sw_M l D cT yX4_covers cX4_covers 2 (some .boolean) 0 0 0 0 σ [P_ (some p0), I_ q1] (some (I_ r)) σ := by
  refine sw_met_z (by decide) (Nat.le_of_ble_eq_true rfl) (fun p e s m args below meth c A Q K hnm hT => ?_)
  have hce : 0 + 0 ≤ 0 := Nat.le_of_ble_eq_true rfl
  have hsl : 0 + 0 ≤ 0 := Nat.le_of_ble_eq_true rfl
  unfold f_X4_covers at h
  change sw_G p l e (sw_R 0 0 0 0) s m args below meth c Q 2 A D cT σ 0 0 0 [(0, P_ (some p0)), (1, I_ q1)] []
  refine g_iload_n (pc := 0) K 1 rfl rfl dX4_covers_0 ?_
  refine g_aload_n (pc := 1) K 0 rfl rfl dX4_covers_1 ?_
  replace h := Option.bind_eq_some_iff.mp h
  obtain ⟨x1, e2, h⟩ := h
  refine g_getI (pc := 2) K cl_4 hin_X4 (k := 0) (by decide) tb_322 rfl e2 dX4_covers_2 ?_
  refine g_icmp_lt (pc := 5) K 20 dX4_covers_5 (by decide) (fun c3 => ?_) (fun c3 => ?_)
  · replace h := (if_pos c3).symm.trans h
    refine g_sub K [] rfl ?_
    exact w_X4_covers_20 K hT   _ _ h (by omega) (by omega)
  · replace h := (if_neg c3).symm.trans h
    refine g_iload_n (pc := 8) K 1 rfl rfl dX4_covers_8 ?_
    refine g_aload_n (pc := 9) K 0 rfl rfl dX4_covers_9 ?_
    replace h := Option.bind_eq_some_iff.mp h
    obtain ⟨x4, e5, h⟩ := h
    refine g_getI (pc := 10) K cl_4 hin_X4 (k := 1) (by decide) tb_323 rfl e5 dX4_covers_10 ?_
    refine g_icmp_gt (pc := 13) K 20 dX4_covers_13 (by decide) (fun c6 => ?_) (fun c6 => ?_)
    · replace h := (if_pos c6).symm.trans h
      refine g_sub K [] rfl ?_
      exact w_X4_covers_20 K hT   _ _ h (by omega) (by omega)
    · replace h := (if_neg c6).symm.trans h
      refine g_iconst (pc := 16) (v := 1) K dX4_covers_16 (by decide) ?_
      refine g_goto (pc := 17) (tgt := 21) K dX4_covers_17 (by decide) ?_
      refine g_sub K [] rfl ?_
      exact w_X4_covers_21 K hT  _ _ _ h (by omega) (by omega)
