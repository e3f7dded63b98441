def b_X4_misses_25 (t0 : Int32) (σ : sw_S) : Option Int32 :=
  (sw_z t0).bind fun z1 =>
  some z1
set_option maxHeartbeats 4000000 in
set_option maxRecDepth 100000 in
theorem w_X4_misses_25 {p : Program} {l : Launch} {e : Env} {s : State} {m : MethodId} {args : Array Value} {below : List Frame} {meth : Method} {c : Code} {Q : State → Prop} {A : Nat → Prop} {D : va_G} {cT : Nat → ClassId} {σ : sw_S}  {r : Int32}  (K : sw_C p s m args c cX4_misses 5 RX4 A D cT) (hT : sw_Tz cX4_misses p l e (sw_R 0 0 0 0) s m args below meth c Q 5 A D cT 0 0 σ r) (t0 : Int32) (ce sl : Nat) (h : b_X4_misses_25 t0 σ = some r) (hce : ce + (0) ≤ 0) (hsl : sl + (0) ≤ 0) : sw_G p l e (sw_R 0 0 0 0) s m args below meth c Q 5 A D cT σ ce sl 25 [] [I_ t0] := by
  unfold b_X4_misses_25 at h
  replace h := Option.bind_eq_some_iff.mp h
  obtain ⟨z1, e2, h⟩ := h
  obtain ⟨rfl, e3⟩ := sw_z_eq e2
  cases h
  exact hT _ _ 25 _ (by omega) (by omega) e3.1 dX4_misses_25
def b_X4_misses_20 (σ : sw_S) : Option Int32 :=
  b_X4_misses_25 1 σ
set_option maxHeartbeats 4000000 in
set_option maxRecDepth 100000 in
theorem w_X4_misses_20 {p : Program} {l : Launch} {e : Env} {s : State} {m : MethodId} {args : Array Value} {below : List Frame} {meth : Method} {c : Code} {Q : State → Prop} {A : Nat → Prop} {D : va_G} {cT : Nat → ClassId} {σ : sw_S}  {r : Int32}  (K : sw_C p s m args c cX4_misses 5 RX4 A D cT) (hT : sw_Tz cX4_misses p l e (sw_R 0 0 0 0) s m args below meth c Q 5 A D cT 0 0 σ r) (ce sl : Nat) (h : b_X4_misses_20  σ = some r) (hce : ce + (0) ≤ 0) (hsl : sl + (0) ≤ 0) : sw_G p l e (sw_R 0 0 0 0) s m args below meth c Q 5 A D cT σ ce sl 20 [] [] := by
  unfold b_X4_misses_20 at h
  refine g_iconst (pc := 20) (v := 1) K dX4_misses_20 (by decide) ?_
  refine g_goto (pc := 21) (tgt := 25) K dX4_misses_21 (by decide) ?_
  refine g_sub K [] rfl ?_
  exact w_X4_misses_25 K hT  _ _ _ h (by omega) (by omega)
def f_X4_misses (p0 : Nat) (q1 : Int64) (q2 : Int64) (σ : sw_S) : Option Int32 :=
  (sw_gI 4 p0 0 σ).bind fun x1 =>
  (if ((lg_cmp q2 ((Int32.toInt64 x1)))) ≤ 0 then
  b_X4_misses_20  σ
  else
  (sw_gI 4 p0 1 σ).bind fun x4 =>
  (if ((lg_cmp q1 ((Int32.toInt64 x4)))) ≤ 0 then
  b_X4_misses_25 0 σ
  else
  b_X4_misses_20  σ))
set_option maxHeartbeats 4000000 in
set_option maxRecDepth 100000 in
theorem c_X4_misses  (l : Launch) (D : va_G) (cT : Nat → ClassId) (p0 : Nat) (q1 : Int64) (q2 : Int64) (σ : sw_S) {r : Int32} (h : f_X4_misses p0 q1 q2 σ = some r) : sw_M l D cT yX4_misses cX4_misses 5 (some .boolean) 0 0 0 0 σ [P_ (some p0), J_ q1, J_ q2] (some (I_ r)) σ := by
  refine sw_met_z (by decide) (Nat.le_of_ble_eq_true rfl) (fun p e s m args below meth c A Q K hnm hT => ?_)
  have hce : 0 + 0 ≤ 0 := Nat.le_of_ble_eq_true rfl
  have hsl : 0 + 0 ≤ 0 := Nat.le_of_ble_eq_true rfl
  unfold f_X4_misses at h
  change sw_G p l e (sw_R 0 0 0 0) s m args below meth c Q 5 A D cT σ 0 0 0 [(0, P_ (some p0)), (1, J_ q1), (3, J_ q2)] []
  refine g_lload_n (pc := 0) K 2 rfl rfl dX4_misses_0 ?_
  refine g_aload_n (pc := 1) K 0 rfl rfl dX4_misses_1 ?_
  replace h := Option.bind_eq_some_iff.mp h
  obtain ⟨x1, e2, h⟩ := h
  refine g_getI (pc := 2) K cl_4 hin_X4 (k := 0) (by decide) tb_322 rfl e2 dX4_misses_2 ?_
  refine g_i2l (pc := 5) K dX4_misses_5 ?_
  refine g_lcmp (pc := 6) K dX4_misses_6 ?_
  refine g_if_le (pc := 7) K 20 dX4_misses_7 (by decide) (fun c3 => ?_) (fun c3 => ?_)
  · replace h := (if_pos c3).symm.trans h
    refine g_sub K [] rfl ?_
    exact w_X4_misses_20 K hT   _ _ h (by omega) (by omega)
  · replace h := (if_neg c3).symm.trans h
    refine g_lload_n (pc := 10) K 1 rfl rfl dX4_misses_10 ?_
    refine g_aload_n (pc := 11) K 0 rfl rfl dX4_misses_11 ?_
    replace h := Option.bind_eq_some_iff.mp h
    obtain ⟨x4, e5, h⟩ := h
    refine g_getI (pc := 12) K cl_4 hin_X4 (k := 1) (by decide) tb_323 rfl e5 dX4_misses_12 ?_
    refine g_i2l (pc := 15) K dX4_misses_15 ?_
    refine g_lcmp (pc := 16) K dX4_misses_16 ?_
    refine g_if_le (pc := 17) K 24 dX4_misses_17 (by decide) (fun c6 => ?_) (fun c6 => ?_)
    · replace h := (if_pos c6).symm.trans h
      refine g_iconst (pc := 24) (v := 0) K dX4_misses_24 (by decide) ?_
      refine g_sub K [] rfl ?_
      exact w_X4_misses_25 K hT  _ _ _ h (by omega) (by omega)
    · replace h := (if_neg c6).symm.trans h
      refine g_sub K [] rfl ?_
      exact w_X4_misses_20 K hT   _ _ h (by omega) (by omega)

def b_X4_holds_27 (t0 : Int32) (σ : sw_S) : Option Int32 :=
  (sw_z t0).bind fun z1 =>
  some z1
set_option maxHeartbeats 4000000 in
set_option maxRecDepth 100000 in
theorem w_X4_holds_27 {p : Program} {l : Launch} {e : Env} {s : State} {m : MethodId} {args : Array Value} {below : List Frame} {meth : Method} {c : Code} {Q : State → Prop} {A : Nat → Prop} {D : va_G} {cT : Nat → ClassId} {σ : sw_S}  {r : Int32}  (K : sw_C p s m args c cX4_holds 5 RX4 A D cT) (hT : sw_Tz cX4_holds p l e (sw_R 0 0 0 0) s m args below meth c Q 5 A D cT 0 0 σ r) (t0 : Int32) (ce sl : Nat) (h : b_X4_holds_27 t0 σ = some r) (hce : ce + (0) ≤ 0) (hsl : sl + (0) ≤ 0) : sw_G p l e (sw_R 0 0 0 0) s m args below meth c Q 5 A D cT σ ce sl 27 [] [I_ t0] := by
  unfold b_X4_holds_27 at h
  replace h := Option.bind_eq_some_iff.mp h
  obtain ⟨z1, e2, h⟩ := h
  obtain ⟨rfl, e3⟩ := sw_z_eq e2
  cases h
  exact hT _ _ 27 _ (by omega) (by omega) e3.1 dX4_holds_27
def b_X4_holds_26 (σ : sw_S) : Option Int32 :=
  b_X4_holds_27 0 σ
set_option maxHeartbeats 4000000 in
set_option maxRecDepth 100000 in
theorem w_X4_holds_26 {p : Program} {l : Launch} {e : Env} {s : State} {m : MethodId} {args : Array Value} {below : List Frame} {meth : Method} {c : Code} {Q : State → Prop} {A : Nat → Prop} {D : va_G} {cT : Nat → ClassId} {σ : sw_S}  {r : Int32}  (K : sw_C p s m args c cX4_holds 5 RX4 A D cT) (hT : sw_Tz cX4_holds p l e (sw_R 0 0 0 0) s m args below meth c Q 5 A D cT 0 0 σ r) (ce sl : Nat) (h : b_X4_holds_26  σ = some r) (hce : ce + (0) ≤ 0) (hsl : sl + (0) ≤ 0) : sw_G p l e (sw_R 0 0 0 0) s m args below meth c Q 5 A D cT σ ce sl 26 [] [] := by
  unfold b_X4_holds_26 at h
  refine g_iconst (pc := 26) (v := 0) K dX4_holds_26 (by decide) ?_
  refine g_sub K [] rfl ?_
  exact w_X4_holds_27 K hT  _ _ _ h (by omega) (by omega)
def f_X4_holds (p0 : Nat) (q1 : Int64) (q2 : Int64) (σ : sw_S) : Option Int32 :=
  (sw_gI 4 p0 0 σ).bind fun x1 =>
  (if ((lg_cmp q1 ((Int32.toInt64 x1)))) < 0 then
  b_X4_holds_26  σ
  else
  (sw_gI 4 p0 1 σ).bind fun x4 =>
  (if 0 < ((lg_cmp ((q2 - 1)) ((Int32.toInt64 x4)))) then
  b_X4_holds_26  σ
  else
  b_X4_holds_27 1 σ))
set_option maxHeartbeats 4000000 in
set_option maxRecDepth 100000 in
theorem c_X4_holds  (l : Launch) (D : va_G) (cT : Nat → ClassId) (p0 : Nat) (q1 : Int64) (q2 : Int64) (σ : sw_S) {r : Int32} (h : f_X4_holds p0 q1 q2 σ = some r) : sw_M l D cT yX4_holds cX4_holds 5 (some .boolean) 0 0 0 0 σ [P_ (some p0), J_ q1, J_ q2] (some (I_ r)) σ := by
  refine sw_met_z (by decide) (Nat.le_of_ble_eq_true rfl) (fun p e s m args below meth c A Q K hnm hT => ?_)
  have hce : 0 + 0 ≤ 0 := Nat.le_of_ble_eq_true rfl
  have hsl : 0 + 0 ≤ 0 := Nat.le_of_ble_eq_true rfl
  unfold f_X4_holds at h
  change sw_G p l e (sw_R 0 0 0 0) s m args below meth c Q 5 A D cT σ 0 0 0 [(0, P_ (some p0)), (1, J_ q1), (3, J_ q2)] []
  refine g_lload_n (pc := 0) K 1 rfl rfl dX4_holds_0 ?_
  refine g_aload_n (pc := 1) K 0 rfl rfl dX4_holds_1 ?_
  replace h := Option.bind_eq_some_iff.mp h
  obtain ⟨x1, e2, h⟩ := h
  refine g_getI (pc := 2) K cl_4 hin_X4 (k := 0) (by decide) tb_322 rfl e2 dX4_holds_2 ?_
  refine g_i2l (pc := 5) K dX4_holds_5 ?_
  refine g_lcmp (pc := 6) K dX4_holds_6 ?_
  refine g_if_lt (pc := 7) K 26 dX4_holds_7 (by decide) (fun c3 => ?_) (fun c3 => ?_)
  · replace h := (if_pos c3).symm.trans h
    refine g_sub K [] rfl ?_
    exact w_X4_holds_26 K hT   _ _ h (by omega) (by omega)
  · replace h := (if_neg c3).symm.trans h
    refine g_lload_n (pc := 10) K 2 rfl rfl dX4_holds_10 ?_
    refine g_lconst (pc := 11) (v := 1) K dX4_holds_11 (by decide) ?_
    refine g_lsub (pc := 12) K dX4_holds_12 ?_
    refine g_aload_n (pc := 13) K 0 rfl rfl dX4_holds_13 ?_
    replace h := Option.bind_eq_some_iff.mp h
    obtain ⟨x4, e5, h⟩ := h
    refine g_getI (pc := 14) K cl_4 hin_X4 (k := 1) (by decide) tb_323 rfl e5 dX4_holds_14 ?_
    refine g_i2l (pc := 17) K dX4_holds_17 ?_
    refine g_lcmp (pc := 18) K dX4_holds_18 ?_
    refine g_if_gt (pc := 19) K 26 dX4_holds_19 (by decide) (fun c6 => ?_) (fun c6 => ?_)
    · replace h := (if_pos c6).symm.trans h
      refine g_sub K [] rfl ?_
      exact w_X4_holds_26 K hT   _ _ h (by omega) (by omega)
    · replace h := (if_neg c6).symm.trans h
      refine g_iconst (pc := 22) (v := 1) K dX4_holds_22 (by decide) ?_
      refine g_goto (pc := 23) (tgt := 27) K dX4_holds_23 (by decide) ?_
      refine g_sub K [] rfl ?_
      exact w_X4_holds_27 K hT  _ _ _ h (by omega) (by omega)

def b_X4_leavesOut_30 (t0 : Int32) (σ : sw_S) : Option Int32 :=
  (sw_z t0).bind fun z1 =>
  some z1
set_option maxHeartbeats 4000000 in
set_option maxRecDepth 100000 in
theorem w_X4_leavesOut_30 {p : Program} {l : Launch} {e : Env} {s : State} {m : MethodId} {args : Array Value} {below : List Frame} {meth : Method} {c : Code} {Q : State → Prop} {A : Nat → Prop} {D : va_G} {cT : Nat → ClassId} {σ : sw_S}  {r : Int32}  (K : sw_C p s m args c cX4_leavesOut 5 RX4 A D cT) (hT : sw_Tz cX4_leavesOut p l e (sw_R 1 0 0 24) s m args below meth c Q 5 A D cT 0 0 σ r) (t0 : Int32) (ce sl : Nat) (h : b_X4_leavesOut_30 t0 σ = some r) (hce : ce + (0) ≤ 0) (hsl : sl + (0) ≤ 0) : sw_G p l e (sw_R 1 0 0 24) s m args below meth c Q 5 A D cT σ ce sl 30 [] [I_ t0] := by
  unfold b_X4_leavesOut_30 at h
  replace h := Option.bind_eq_some_iff.mp h
  obtain ⟨z1, e2, h⟩ := h
  obtain ⟨rfl, e3⟩ := sw_z_eq e2
  cases h
  exact hT _ _ 30 _ (by omega) (by omega) e3.1 dX4_leavesOut_30
def b_X4_leavesOut_29 (σ : sw_S) : Option Int32 :=
  b_X4_leavesOut_30 0 σ
set_option maxHeartbeats 4000000 in
set_option maxRecDepth 100000 in
theorem w_X4_leavesOut_29 {p : Program} {l : Launch} {e : Env} {s : State} {m : MethodId} {args : Array Value} {below : List Frame} {meth : Method} {c : Code} {Q : State → Prop} {A : Nat → Prop} {D : va_G} {cT : Nat → ClassId} {σ : sw_S}  {r : Int32}  (K : sw_C p s m args c cX4_leavesOut 5 RX4 A D cT) (hT : sw_Tz cX4_leavesOut p l e (sw_R 1 0 0 24) s m args below meth c Q 5 A D cT 0 0 σ r) (ce sl : Nat) (h : b_X4_leavesOut_29  σ = some r) (hce : ce + (0) ≤ 0) (hsl : sl + (0) ≤ 0) : sw_G p l e (sw_R 1 0 0 24) s m args below meth c Q 5 A D cT σ ce sl 29 [] [] := by
  unfold b_X4_leavesOut_29 at h
  refine g_iconst (pc := 29) (v := 0) K dX4_leavesOut_29 (by decide) ?_
  refine g_sub K [] rfl ?_
  exact w_X4_leavesOut_30 K hT  _ _ _ h (by omega) (by omega)
def b_X4_leavesOut_25 (σ : sw_S) : Option Int32 :=
  b_X4_leavesOut_30 1 σ
set_option maxHeartbeats 4000000 in
set_option maxRecDepth 100000 in
theorem w_X4_leavesOut_25 {p : Program} {l : Launch} {e : Env} {s : State} {m : MethodId} {args : Array Value} {below : List Frame} {meth : Method} {c : Code} {Q : State → Prop} {A : Nat → Prop} {D : va_G} {cT : Nat → ClassId} {σ : sw_S}  {r : Int32}  (K : sw_C p s m args c cX4_leavesOut 5 RX4 A D cT) (hT : sw_Tz cX4_leavesOut p l e (sw_R 1 0 0 24) s m args below meth c Q 5 A D cT 0 0 σ r) (ce sl : Nat) (h : b_X4_leavesOut_25  σ = some r) (hce : ce + (0) ≤ 0) (hsl : sl + (0) ≤ 0) : sw_G p l e (sw_R 1 0 0 24) s m args below meth c Q 5 A D cT σ ce sl 25 [] [] := by
  unfold b_X4_leavesOut_25 at h
  refine g_iconst (pc := 25) (v := 1) K dX4_leavesOut_25 (by decide) ?_
  refine g_goto (pc := 26) (tgt := 30) K dX4_leavesOut_26 (by decide) ?_
  refine g_sub K [] rfl ?_
  exact w_X4_leavesOut_30 K hT  _ _ _ h (by omega) (by omega)
def f_X4_leavesOut (p0 : Nat) (q1 : Int64) (q2 : Int64) (σ : sw_S) : Option Int32 :=
  (sw_ob 4 p0 σ).bind fun f1 =>
  (f_X4_misses p0 q1 q2 σ).bind fun x4 =>
  (if x4 = 0 then
  (sw_gI 4 p0 2 σ).bind fun x6 =>
  (if x6 = 0 then
  b_X4_leavesOut_29  σ
  else
  (sw_ob 4 p0 σ).bind fun f9 =>
  (f_X4_holds p0 q1 q2 σ).bind fun x12 =>
  (if x12 = 0 then
  b_X4_leavesOut_29  σ
  else
  b_X4_leavesOut_25  σ))
  else
  b_X4_leavesOut_25  σ)
set_option maxHeartbeats 4000000 in
set_option maxRecDepth 100000 in
theorem c_X4_leavesOut  (l : Launch) (D : va_G) (cT : Nat → ClassId) (p0 : Nat) (q1 : Int64) (q2 : Int64) (σ : sw_S) {r : Int32} (h : f_X4_leavesOut p0 q1 q2 σ = some r) : sw_M l D cT yX4_leavesOut cX4_leavesOut 5 (some .boolean) 1 24 0 0 σ [P_ (some p0), J_ q1, J_ q2] (some (I_ r)) σ := by
  refine sw_met_z (by decide) (Nat.le_of_ble_eq_true rfl) (fun p e s m args below meth c A Q K hnm hT => ?_)
  have hce : 0 + 0 ≤ 0 := Nat.le_of_ble_eq_true rfl
  have hsl : 0 + 0 ≤ 0 := Nat.le_of_ble_eq_true rfl
  unfold f_X4_leavesOut at h
  change sw_G p l e (sw_R 1 0 0 24) s m args below meth c Q 5 A D cT σ 0 0 0 [(0, P_ (some p0)), (1, J_ q1), (3, J_ q2)] []
  refine g_aload_n (pc := 0) K 0 rfl rfl dX4_leavesOut_0 ?_
  refine g_lload_n (pc := 1) K 1 rfl rfl dX4_leavesOut_1 ?_
  refine g_lload_n (pc := 2) K 2 rfl rfl dX4_leavesOut_2 ?_
  replace h := Option.bind_eq_some_iff.mp h
  obtain ⟨f1, e2, h⟩ := h
  replace h := Option.bind_eq_some_iff.mp h
  obtain ⟨x4, e3, h⟩ := h
  refine g_callV (pc := 3) (st := []) K [J_ q1, J_ q2] (c_X4_misses _ _ _ _ _ _ _ e3) e2 cl_4 rfl tb_368 tb_365 tb_9 tb_366 tb_367 hd_X4_misses ⟨Nat.le_of_ble_eq_true rfl, Nat.le_of_ble_eq_true rfl⟩ rfl (sw_rm (Nat.le_of_ble_eq_true rfl)) ⟨by show _ ≤ 0; omega, by show _ ≤ 0; omega⟩ dX4_leavesOut_3 ?_
  refine g_if_ne (pc := 6) K 25 dX4_leavesOut_6 (by decide) (fun c5 => ?_) (fun c5 => ?_)
  · replace h := (if_pos c5).symm.trans h
    refine g_aload_n (pc := 9) K 0 rfl rfl dX4_leavesOut_9 ?_
    replace h := Option.bind_eq_some_iff.mp h
    obtain ⟨x6, e7, h⟩ := h
    refine g_getI (pc := 10) K cl_4 hin_X4 (k := 2) (by decide) tb_324 rfl e7 dX4_leavesOut_10 ?_
    refine g_if_eq (pc := 13) K 29 dX4_leavesOut_13 (by decide) (fun c8 => ?_) (fun c8 => ?_)
    · replace h := (if_pos c8).symm.trans h
      refine g_sub K [] rfl ?_
      exact w_X4_leavesOut_29 K hT   _ _ h (by omega) (by omega)
    · replace h := (if_neg c8).symm.trans h
      refine g_aload_n (pc := 16) K 0 rfl rfl dX4_leavesOut_16 ?_
      refine g_lload_n (pc := 17) K 1 rfl rfl dX4_leavesOut_17 ?_
      refine g_lload_n (pc := 18) K 2 rfl rfl dX4_leavesOut_18 ?_
      replace h := Option.bind_eq_some_iff.mp h
      obtain ⟨f9, e10, h⟩ := h
      replace h := Option.bind_eq_some_iff.mp h
      obtain ⟨x12, e11, h⟩ := h
      refine g_callV (pc := 19) (st := []) K [J_ q1, J_ q2] (c_X4_holds _ _ _ _ _ _ _ e11) e10 cl_4 rfl tb_372 tb_369 tb_9 tb_370 tb_371 hd_X4_holds ⟨Nat.le_of_ble_eq_true rfl, Nat.le_of_ble_eq_true rfl⟩ rfl (sw_rm (Nat.le_of_ble_eq_true rfl)) ⟨by show _ ≤ 0; omega, by show _ ≤ 0; omega⟩ dX4_leavesOut_19 ?_
      refine g_if_eq (pc := 22) K 29 dX4_leavesOut_22 (by decide) (fun c13 => ?_) (fun c13 => ?_)
      · replace h := (if_pos c13).symm.trans h
        refine g_sub K [] rfl ?_
        exact w_X4_leavesOut_29 K hT   _ _ h (by omega) (by omega)
      · replace h := (if_neg c13).symm.trans h
        refine g_sub K [] rfl ?_
        exact w_X4_leavesOut_25 K hT   _ _ h (by omega) (by omega)
  · replace h := (if_neg c5).symm.trans h
    refine g_sub K [] rfl ?_
    exact w_X4_leavesOut_25 K hT   _ _ h (by omega) (by omega)
