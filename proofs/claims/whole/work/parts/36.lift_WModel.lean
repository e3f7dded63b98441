def b_X8_row_42 (t0 : Int32) (σ : sw_S) : Option Int32 :=
  some t0
set_option maxHeartbeats 4000000 in
set_option maxRecDepth 100000 in
theorem w_X8_row_42 {p : Program} {l : Launch} {e : Env} {s : State} {m : MethodId} {args : Array Value} {below : List Frame} {meth : Method} {c : Code} {Q : State → Prop} {A : Nat → Prop} {D : va_G} {cT : Nat → ClassId} {σ : sw_S}  {r : Int32}  (K : sw_C p s m args c cX8_row 3 RX8 A D cT) (hT : sw_Ti cX8_row p l e (sw_R 0 0 0 0) s m args below meth c Q 3 A D cT 0 0 σ r) (t0 : Int32) (ce sl : Nat) (h : b_X8_row_42 t0 σ = some r) (hce : ce + (0) ≤ 0) (hsl : sl + (0) ≤ 0) : sw_G p l e (sw_R 0 0 0 0) s m args below meth c Q 3 A D cT σ ce sl 42 [] [I_ t0] := by
  unfold b_X8_row_42 at h
  cases h
  exact hT _ _ 42 _ (by omega) (by omega) dX8_row_42
def b_X8_row_12 (σ : sw_S) : Option Int32 :=
  some 0
set_option maxHeartbeats 4000000 in
set_option maxRecDepth 100000 in
theorem w_X8_row_12 {p : Program} {l : Launch} {e : Env} {s : State} {m : MethodId} {args : Array Value} {below : List Frame} {meth : Method} {c : Code} {Q : State → Prop} {A : Nat → Prop} {D : va_G} {cT : Nat → ClassId} {σ : sw_S}  {r : Int32}  (K : sw_C p s m args c cX8_row 3 RX8 A D cT) (hT : sw_Ti cX8_row p l e (sw_R 0 0 0 0) s m args below meth c Q 3 A D cT 0 0 σ r) (ce sl : Nat) (h : b_X8_row_12  σ = some r) (hce : ce + (0) ≤ 0) (hsl : sl + (0) ≤ 0) : sw_G p l e (sw_R 0 0 0 0) s m args below meth c Q 3 A D cT σ ce sl 12 [] [] := by
  unfold b_X8_row_12 at h
  refine g_iconst (pc := 12) (v := 0) K dX8_row_12 (by decide) ?_
  cases h
  exact hT _ _ 13 _ (by omega) (by omega) dX8_row_13
def f_X8_row (p0 : Nat) (q1 : Int32) (q2 : Int32) (σ : sw_S) : Option Int32 :=
  (if q1 < 0 then
  b_X8_row_12  σ
  else
  (sw_gI 8 p0 29 σ).bind fun x2 =>
  (if q1 < x2 then
  (if q2 = 0 then
  (sw_gR 8 p0 30 σ).bind fun r6 =>
  r6.bind fun a8 =>
  (sw_al 0 a8 q1 σ).bind fun x10 =>
  b_X8_row_42 x10 σ
  else
  (if q2 = 1 then
  (sw_gR 8 p0 31 σ).bind fun r12 =>
  r12.bind fun a14 =>
  (sw_al 0 a14 q1 σ).bind fun x16 =>
  b_X8_row_42 x16 σ
  else
  b_X8_row_42 0 σ))
  else
  b_X8_row_12  σ))
set_option maxHeartbeats 4000000 in
set_option maxRecDepth 100000 in
theorem c_X8_row  (l : Launch) (D : va_G) (cT : Nat → ClassId) (p0 : Nat) (q1 : Int32) (q2 : Int32) (σ : sw_S) {r : Int32} (h : f_X8_row p0 q1 q2 σ = some r) : sw_M l D cT yX8_row cX8_row 3 (some .int) 0 0 0 0 σ [P_ (some p0), I_ q1, I_ q2] (some (I_ r)) σ := by
  refine sw_met_i (by decide) (Nat.le_of_ble_eq_true rfl) (fun p e s m args below meth c A Q K hnm hT => ?_)
  have hce : 0 + 0 ≤ 0 := Nat.le_of_ble_eq_true rfl
  have hsl : 0 + 0 ≤ 0 := Nat.le_of_ble_eq_true rfl
  unfold f_X8_row at h
  change sw_G p l e (sw_R 0 0 0 0) s m args below meth c Q 3 A D cT σ 0 0 0 [(0, P_ (some p0)), (1, I_ q1), (2, I_ q2)] []
  refine g_iload_n (pc := 0) K 1 rfl rfl dX8_row_0 ?_
  refine g_if_lt (pc := 1) K 12 dX8_row_1 (by decide) (fun c1 => ?_) (fun c1 => ?_)
  · replace h := (if_pos c1).symm.trans h
    refine g_sub K [] rfl ?_
    exact w_X8_row_12 K hT   _ _ h (by omega) (by omega)
  · replace h := (if_neg c1).symm.trans h
    refine g_iload_n (pc := 4) K 1 rfl rfl dX8_row_4 ?_
    refine g_aload_n (pc := 5) K 0 rfl rfl dX8_row_5 ?_
    replace h := Option.bind_eq_some_iff.mp h
    obtain ⟨x2, e3, h⟩ := h
    refine g_getI (pc := 6) K cl_8 hin_X8 (k := 29) (by decide) tb_547 rfl e3 dX8_row_6 ?_
    refine g_icmp_lt (pc := 9) K 14 dX8_row_9 (by decide) (fun c4 => ?_) (fun c4 => ?_)
    · replace h := (if_pos c4).symm.trans h
      refine g_iload_n (pc := 14) K 2 rfl rfl dX8_row_14 ?_
      refine g_if_ne (pc := 15) K 27 dX8_row_15 (by decide) (fun c5 => ?_) (fun c5 => ?_)
      · replace h := (if_pos c5).symm.trans h
        refine g_aload_n (pc := 18) K 0 rfl rfl dX8_row_18 ?_
        replace h := Option.bind_eq_some_iff.mp h
        obtain ⟨r6, e7, h⟩ := h
        refine g_getR (pc := 19) K cl_8 hin_X8 (k := 30) (by decide) tb_548 rfl e7 dX8_row_19 ?_
        refine g_iload_n (pc := 22) K 1 rfl rfl dX8_row_22 ?_
        replace h := Option.bind_eq_some_iff.mp h
        obtain ⟨a8, rfl, h⟩ := h
        replace h := Option.bind_eq_some_iff.mp h
        obtain ⟨x10, e9, h⟩ := h
        refine g_iald (pc := 23) K e9 dX8_row_23 ?_
        refine g_goto (pc := 24) (tgt := 42) K dX8_row_24 (by decide) ?_
        refine g_sub K [] rfl ?_
        exact w_X8_row_42 K hT  _ _ _ h (by omega) (by omega)
      · replace h := (if_neg c5).symm.trans h
        refine g_iload_n (pc := 27) K 2 rfl rfl dX8_row_27 ?_
        refine g_iconst (pc := 28) (v := 1) K dX8_row_28 (by decide) ?_
        refine g_icmp_ne (pc := 29) K 41 dX8_row_29 (by decide) (fun c11 => ?_) (fun c11 => ?_)
        · replace h := (if_pos c11).symm.trans h
          refine g_aload_n (pc := 32) K 0 rfl rfl dX8_row_32 ?_
          replace h := Option.bind_eq_some_iff.mp h
          obtain ⟨r12, e13, h⟩ := h
          refine g_getR (pc := 33) K cl_8 hin_X8 (k := 31) (by decide) tb_549 rfl e13 dX8_row_33 ?_
          refine g_iload_n (pc := 36) K 1 rfl rfl dX8_row_36 ?_
          replace h := Option.bind_eq_some_iff.mp h
          obtain ⟨a14, rfl, h⟩ := h
          replace h := Option.bind_eq_some_iff.mp h
          obtain ⟨x16, e15, h⟩ := h
          refine g_iald (pc := 37) K e15 dX8_row_37 ?_
          refine g_goto (pc := 38) (tgt := 42) K dX8_row_38 (by decide) ?_
          refine g_sub K [] rfl ?_
          exact w_X8_row_42 K hT  _ _ _ h (by omega) (by omega)
        · replace h := (if_neg c11).symm.trans h
          refine g_iconst (pc := 41) (v := 0) K dX8_row_41 (by decide) ?_
          refine g_sub K [] rfl ?_
          exact w_X8_row_42 K hT  _ _ _ h (by omega) (by omega)
    · replace h := (if_neg c4).symm.trans h
      refine g_sub K [] rfl ?_
      exact w_X8_row_12 K hT   _ _ h (by omega) (by omega)
