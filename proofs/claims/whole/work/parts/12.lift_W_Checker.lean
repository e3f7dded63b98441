def b_X2_has_17 (t0 : Int32) (σ : sw_S) : Option Int32 :=
  (sw_z t0).bind fun z1 =>
  some z1
set_option maxHeartbeats 4000000 in
set_option maxRecDepth 100000 in
theorem w_X2_has_17 {p : Program} {l : Launch} {e : Env} {s : State} {m : MethodId} {args : Array Value} {below : List Frame} {meth : Method} {c : Code} {Q : State → Prop} {A : Nat → Prop} {D : va_G} {cT : Nat → ClassId} {σ : sw_S}  {r : Int32}  (K : sw_C p s m args c cX2_has 2 RX2 A D cT) (hT : sw_Tz cX2_has p l e (sw_R 0 0 0 0) s m args below meth c Q 2 A D cT 0 0 σ r) (t0 : Int32) (ce sl : Nat) (h : b_X2_has_17 t0 σ = some r) (hce : ce + (0) ≤ 0) (hsl : sl + (0) ≤ 0) : sw_G p l e (sw_R 0 0 0 0) s m args below meth c Q 2 A D cT σ ce sl 17 [] [I_ t0] := by
  unfold b_X2_has_17 at h
  replace h := Option.bind_eq_some_iff.mp h
  obtain ⟨z1, e2, h⟩ := h
  obtain ⟨rfl, e3⟩ := sw_z_eq e2
  cases h
  exact hT _ _ 17 _ (by omega) (by omega) e3.1 dX2_has_17
def b_X2_has_16 (σ : sw_S) : Option Int32 :=
  b_X2_has_17 0 σ
set_option maxHeartbeats 4000000 in
set_option maxRecDepth 100000 in
theorem w_X2_has_16 {p : Program} {l : Launch} {e : Env} {s : State} {m : MethodId} {args : Array Value} {below : List Frame} {meth : Method} {c : Code} {Q : State → Prop} {A : Nat → Prop} {D : va_G} {cT : Nat → ClassId} {σ : sw_S}  {r : Int32}  (K : sw_C p s m args c cX2_has 2 RX2 A D cT) (hT : sw_Tz cX2_has p l e (sw_R 0 0 0 0) s m args below meth c Q 2 A D cT 0 0 σ r) (ce sl : Nat) (h : b_X2_has_16  σ = some r) (hce : ce + (0) ≤ 0) (hsl : sl + (0) ≤ 0) : sw_G p l e (sw_R 0 0 0 0) s m args below meth c Q 2 A D cT σ ce sl 16 [] [] := by
  unfold b_X2_has_16 at h
  refine g_iconst (pc := 16) (v := 0) K dX2_has_16 (by decide) ?_
  refine g_sub K [] rfl ?_
  exact w_X2_has_17 K hT  _ _ _ h (by omega) (by omega)
def f_X2_has (p0 : Nat) (q1 : Int32) (σ : sw_S) : Option Int32 :=
  (if q1 < 0 then
  b_X2_has_16  σ
  else
  (sw_gI 2 p0 1 σ).bind fun x2 =>
  (if x2 ≤ q1 then
  b_X2_has_16  σ
  else
  b_X2_has_17 1 σ))
set_option maxHeartbeats 4000000 in
set_option maxRecDepth 100000 in
theorem c_X2_has  (l : Launch) (D : va_G) (cT : Nat → ClassId) (p0 : Nat) (q1 : Int32) (σ : sw_S) {r : Int32} (h : f_X2_has p0 q1 σ = some r) : sw_M l D cT yX2_has cX2_has 2 (some .boolean) 0 0 0 0 σ [P_ (some p0), I_ q1] (some (I_ r)) σ := by
  refine sw_met_z (by decide) (Nat.le_of_ble_eq_true rfl) (fun p e s m args below meth c A Q K hnm hT => ?_)
  have hce : 0 + 0 ≤ 0 := Nat.le_of_ble_eq_true rfl
  have hsl : 0 + 0 ≤ 0 := Nat.le_of_ble_eq_true rfl
  unfold f_X2_has at h
  change sw_G p l e (sw_R 0 0 0 0) s m args below meth c Q 2 A D cT σ 0 0 0 [(0, P_ (some p0)), (1, I_ q1)] []
  refine g_iload_n (pc := 0) K 1 rfl rfl dX2_has_0 ?_
  refine g_if_lt (pc := 1) K 16 dX2_has_1 (by decide) (fun c1 => ?_) (fun c1 => ?_)
  · replace h := (if_pos c1).symm.trans h
    refine g_sub K [] rfl ?_
    exact w_X2_has_16 K hT   _ _ h (by omega) (by omega)
  · replace h := (if_neg c1).symm.trans h
    refine g_iload_n (pc := 4) K 1 rfl rfl dX2_has_4 ?_
    refine g_aload_n (pc := 5) K 0 rfl rfl dX2_has_5 ?_
    replace h := Option.bind_eq_some_iff.mp h
    obtain ⟨x2, e3, h⟩ := h
    refine g_getI (pc := 6) K cl_2 hin_X2 (k := 1) (by decide) tb_112 rfl e3 dX2_has_6 ?_
    refine g_icmp_ge (pc := 9) K 16 dX2_has_9 (by decide) (fun c4 => ?_) (fun c4 => ?_)
    · replace h := (if_pos c4).symm.trans h
      refine g_sub K [] rfl ?_
      exact w_X2_has_16 K hT   _ _ h (by omega) (by omega)
    · replace h := (if_neg c4).symm.trans h
      refine g_iconst (pc := 12) (v := 1) K dX2_has_12 (by decide) ?_
      refine g_goto (pc := 13) (tgt := 17) K dX2_has_13 (by decide) ?_
      refine g_sub K [] rfl ?_
      exact w_X2_has_17 K hT  _ _ _ h (by omega) (by omega)

def b_X0_next_30 (v0 : Nat) (t0 : Int32) (σ : sw_S) : Option (Int32 × sw_S) :=
  (sw_gI 0 v0 7 σ).bind fun x1 =>
  (sw_pt 0 v0 7 (.int ((x1 + 1))) σ).bind fun σ3 =>
  some (t0, σ3)
set_option maxHeartbeats 4000000 in
set_option maxRecDepth 100000 in
theorem w_X0_next_30 {p : Program} {l : Launch} {e : Env} {s : State} {m : MethodId} {args : Array Value} {below : List Frame} {meth : Method} {c : Code} {Q : State → Prop} {A : Nat → Prop} {D : va_G} {cT : Nat → ClassId} {r : Int32}  {σ' : sw_S}  (K : sw_C p s m args c cX0_next 2 RX0 A D cT) (hT : sw_Ti cX0_next p l e (sw_R 1 0 0 21) s m args below meth c Q 2 A D cT 0 0 σ' r) (v0 : Nat) (t0 : Int32) (σ : sw_S)  (ce sl : Nat) (h : b_X0_next_30 v0 t0 σ = some (r, σ')) (hce : ce + (0) ≤ 0) (hsl : sl + (0) ≤ 0) : sw_G p l e (sw_R 1 0 0 21) s m args below meth c Q 2 A D cT σ ce sl 30 [(0, P_ (some v0))] [I_ t0] := by
  unfold b_X0_next_30 at h
  refine g_istore_n (pc := 30) K [(1, I_ t0), (0, P_ (some v0))] rfl (by decide) rfl dX0_next_30 ?_
  refine g_aload_n (pc := 31) K 1 rfl rfl dX0_next_31 ?_
  refine g_dup (pc := 32) K rfl dX0_next_32 ?_
  replace h := Option.bind_eq_some_iff.mp h
  obtain ⟨x1, e2, h⟩ := h
  refine g_getI (pc := 33) K cl_0 hin_X0 (k := 7) (by decide) tb_133 rfl e2 dX0_next_33 ?_
  refine g_iconst (pc := 36) (v := 1) K dX0_next_36 (by decide) ?_
  refine g_iadd (pc := 37) K dX0_next_37 ?_
  replace h := Option.bind_eq_some_iff.mp h
  obtain ⟨σ3, e4, h⟩ := h
  refine g_put (pc := 38) K cl_0 hin_X0 (k := 7) (by decide) tb_133 rfl tyX0 tyX0_ok nmX0 (Or.inl rfl) rfl rfl e4 dX0_next_38 ?_
  refine g_iload_n (pc := 41) K 0 rfl rfl dX0_next_41 ?_
  cases h
  exact hT _ _ 42 _ (by omega) (by omega) dX0_next_42
def f_X0_next (p0 : Nat) (σ : sw_S) : Option (Int32 × sw_S) :=
  (sw_gR 0 p0 1 σ).bind fun r1 =>
  (sw_gI 0 p0 7 σ).bind fun x3 =>
  r1.bind fun a5 =>
  (sw_ob 2 a5 σ).bind fun f6 =>
  (f_X2_has a5 x3 σ).bind fun x9 =>
  (if x9 = 0 then
  b_X0_next_30 p0 0 σ
  else
  (sw_gR 0 p0 1 σ).bind fun r11 =>
  r11.bind fun a13 =>
  (sw_gR 2 a13 0 σ).bind fun r14 =>
  (sw_gI 0 p0 7 σ).bind fun x16 =>
  r14.bind fun a18 =>
  (sw_al 0 a18 x16 σ).bind fun x20 =>
  b_X0_next_30 p0 x20 σ)
set_option maxHeartbeats 4000000 in
set_option maxRecDepth 100000 in
theorem c_X0_next  (l : Launch) (D : va_G) (cT : Nat → ClassId) (p0 : Nat) (σ : sw_S) {r : Int32} {σ' : sw_S} (h : f_X0_next p0 σ = some (r, σ')) : sw_M l D cT yX0_next cX0_next 2 (some .int) 1 21 0 0 σ [P_ (some p0)] (some (I_ r)) σ' := by
  refine sw_met_i (by decide) (Nat.le_of_ble_eq_true rfl) (fun p e s m args below meth c A Q K hnm hT => ?_)
  have hce : 0 + 0 ≤ 0 := Nat.le_of_ble_eq_true rfl
  have hsl : 0 + 0 ≤ 0 := Nat.le_of_ble_eq_true rfl
  unfold f_X0_next at h
  change sw_G p l e (sw_R 1 0 0 21) s m args below meth c Q 2 A D cT σ 0 0 0 [(0, P_ (some p0))] []
  refine g_aload_n (pc := 0) K 0 rfl rfl dX0_next_0 ?_
  replace h := Option.bind_eq_some_iff.mp h
  obtain ⟨r1, e2, h⟩ := h
  refine g_getR (pc := 1) K cl_0 hin_X0 (k := 1) (by decide) tb_127 rfl e2 dX0_next_1 ?_
  refine g_aload_n (pc := 4) K 0 rfl rfl dX0_next_4 ?_
  replace h := Option.bind_eq_some_iff.mp h
  obtain ⟨x3, e4, h⟩ := h
  refine g_getI (pc := 5) K cl_0 hin_X0 (k := 7) (by decide) tb_133 rfl e4 dX0_next_5 ?_
  replace h := Option.bind_eq_some_iff.mp h
  obtain ⟨a5, rfl, h⟩ := h
  replace h := Option.bind_eq_some_iff.mp h
  obtain ⟨f6, e7, h⟩ := h
  replace h := Option.bind_eq_some_iff.mp h
  obtain ⟨x9, e8, h⟩ := h
  refine g_callV (pc := 8) (st := []) K [I_ x3] (c_X2_has _ _ _ _ _ _ e8) e7 cl_2 rfl tb_385 tb_414 tb_4 tb_383 tb_384 hd_X2_has ⟨Nat.le_of_ble_eq_true rfl, Nat.le_of_ble_eq_true rfl⟩ rfl (sw_rm (Nat.le_of_ble_eq_true rfl)) ⟨by show _ ≤ 0; omega, by show _ ≤ 0; omega⟩ dX0_next_8 ?_
  refine g_if_eq (pc := 11) K 29 dX0_next_11 (by decide) (fun c10 => ?_) (fun c10 => ?_)
  · replace h := (if_pos c10).symm.trans h
    refine g_iconst (pc := 29) (v := 0) K dX0_next_29 (by decide) ?_
    refine g_sub K [0] rfl ?_
    exact w_X0_next_30 K hT  _ _ _ _ _ h (by omega) (by omega)
  · replace h := (if_neg c10).symm.trans h
    refine g_aload_n (pc := 14) K 0 rfl rfl dX0_next_14 ?_
    replace h := Option.bind_eq_some_iff.mp h
    obtain ⟨r11, e12, h⟩ := h
    refine g_getR (pc := 15) K cl_0 hin_X0 (k := 1) (by decide) tb_127 rfl e12 dX0_next_15 ?_
    replace h := Option.bind_eq_some_iff.mp h
    obtain ⟨a13, rfl, h⟩ := h
    replace h := Option.bind_eq_some_iff.mp h
    obtain ⟨r14, e15, h⟩ := h
    refine g_getR (pc := 18) K cl_2 hin_X2 (k := 0) (by decide) tb_110 rfl e15 dX0_next_18 ?_
    refine g_aload_n (pc := 21) K 0 rfl rfl dX0_next_21 ?_
    replace h := Option.bind_eq_some_iff.mp h
    obtain ⟨x16, e17, h⟩ := h
    refine g_getI (pc := 22) K cl_0 hin_X0 (k := 7) (by decide) tb_133 rfl e17 dX0_next_22 ?_
    replace h := Option.bind_eq_some_iff.mp h
    obtain ⟨a18, rfl, h⟩ := h
    replace h := Option.bind_eq_some_iff.mp h
    obtain ⟨x20, e19, h⟩ := h
    refine g_iald (pc := 25) K e19 dX0_next_25 ?_
    refine g_goto (pc := 26) (tgt := 30) K dX0_next_26 (by decide) ?_
    refine g_sub K [0] rfl ?_
    exact w_X0_next_30 K hT  _ _ _ _ _ h (by omega) (by omega)

def b_X0_note_52 (σ : sw_S) : Option sw_S :=
  some σ
set_option maxHeartbeats 4000000 in
set_option maxRecDepth 100000 in
theorem w_X0_note_52 {p : Program} {l : Launch} {e : Env} {s : State} {m : MethodId} {args : Array Value} {below : List Frame} {meth : Method} {c : Code} {Q : State → Prop} {A : Nat → Prop} {D : va_G} {cT : Nat → ClassId} {σ' : sw_S}  (K : sw_C p s m args c cX0_note 4 RX0 A D cT) (hT : sw_Tv cX0_note p l e (sw_R 0 0 0 0) s m args below meth c Q 4 A D cT 0 0 σ') (σ : sw_S)  (ce sl : Nat) (h : b_X0_note_52  σ = some σ') (hce : ce + (0) ≤ 0) (hsl : sl + (0) ≤ 0) : sw_G p l e (sw_R 0 0 0 0) s m args below meth c Q 4 A D cT σ ce sl 52 [] [] := by
  unfold b_X0_note_52 at h
  cases h
  exact hT _ _ 52 _ (by omega) (by omega) dX0_note_52
def f_X0_note (p0 : Nat) (q1 : Int32) (q2 : Int32) (q3 : Int32) (σ : sw_S) : Option sw_S :=
  (sw_gI 0 p0 8 σ).bind fun x1 =>
  (sw_gR 0 p0 2 σ).bind fun r3 =>
  r3.bind fun a5 =>
  (sw_len a5 σ).bind fun x6 =>
  (if x6 ≤ x1 then
  b_X0_note_52 σ
  else
  (sw_gR 0 p0 2 σ).bind fun r9 =>
  (sw_gI 0 p0 8 σ).bind fun x11 =>
  r9.bind fun a13 =>
  (sw_as 0 a13 x11 q1 σ).bind fun σ15 =>
  (sw_gR 0 p0 3 σ15).bind fun r16 =>
  (sw_gI 0 p0 8 σ15).bind fun x18 =>
  r16.bind fun a20 =>
  (sw_as 0 a20 x18 q2 σ15).bind fun σ22 =>
  (sw_gR 0 p0 4 σ22).bind fun r23 =>
  (sw_gI 0 p0 8 σ22).bind fun x25 =>
  r23.bind fun a27 =>
  (sw_z q3).bind fun z30 =>
  (sw_as 2 a27 x25 z30 σ22).bind fun σ29 =>
  (sw_gI 0 p0 8 σ29).bind fun x33 =>
  (sw_pt 0 p0 8 (.int ((x33 + 1))) σ29).bind fun σ35 =>
  b_X0_note_52 σ35)
set_option maxHeartbeats 4000000 in
set_option maxRecDepth 100000 in
theorem c_X0_note  (l : Launch) (D : va_G) (cT : Nat → ClassId) (p0 : Nat) (q1 : Int32) (q2 : Int32) (q3 : Int32) (σ : sw_S) {σ' : sw_S} (h : f_X0_note p0 q1 q2 q3 σ = some σ') : sw_M l D cT yX0_note cX0_note 4 none 0 0 0 0 σ [P_ (some p0), I_ q1, I_ q2, I_ q3] none σ' := by
  refine sw_met_v (by decide) (Nat.le_of_ble_eq_true rfl) (fun p e s m args below meth c A Q K hnm hT => ?_)
  have hce : 0 + 0 ≤ 0 := Nat.le_of_ble_eq_true rfl
  have hsl : 0 + 0 ≤ 0 := Nat.le_of_ble_eq_true rfl
  unfold f_X0_note at h
  change sw_G p l e (sw_R 0 0 0 0) s m args below meth c Q 4 A D cT σ 0 0 0 [(0, P_ (some p0)), (1, I_ q1), (2, I_ q2), (3, I_ q3)] []
  refine g_aload_n (pc := 0) K 0 rfl rfl dX0_note_0 ?_
  replace h := Option.bind_eq_some_iff.mp h
  obtain ⟨x1, e2, h⟩ := h
  refine g_getI (pc := 1) K cl_0 hin_X0 (k := 8) (by decide) tb_134 rfl e2 dX0_note_1 ?_
  refine g_aload_n (pc := 4) K 0 rfl rfl dX0_note_4 ?_
  replace h := Option.bind_eq_some_iff.mp h
  obtain ⟨r3, e4, h⟩ := h
  refine g_getR (pc := 5) K cl_0 hin_X0 (k := 2) (by decide) tb_128 rfl e4 dX0_note_5 ?_
  replace h := Option.bind_eq_some_iff.mp h
  obtain ⟨a5, rfl, h⟩ := h
  replace h := Option.bind_eq_some_iff.mp h
  obtain ⟨x6, e7, h⟩ := h
  refine g_alen (pc := 8) K e7 dX0_note_8 ?_
  refine g_icmp_ge (pc := 9) K 52 dX0_note_9 (by decide) (fun c8 => ?_) (fun c8 => ?_)
  · replace h := (if_pos c8).symm.trans h
    refine g_sub K [] rfl ?_
    exact w_X0_note_52 K hT   _ _ _ h (by omega) (by omega)
  · replace h := (if_neg c8).symm.trans h
    refine g_aload_n (pc := 12) K 0 rfl rfl dX0_note_12 ?_
    replace h := Option.bind_eq_some_iff.mp h
    obtain ⟨r9, e10, h⟩ := h
    refine g_getR (pc := 13) K cl_0 hin_X0 (k := 2) (by decide) tb_128 rfl e10 dX0_note_13 ?_
    refine g_aload_n (pc := 16) K 0 rfl rfl dX0_note_16 ?_
    replace h := Option.bind_eq_some_iff.mp h
    obtain ⟨x11, e12, h⟩ := h
    refine g_getI (pc := 17) K cl_0 hin_X0 (k := 8) (by decide) tb_134 rfl e12 dX0_note_17 ?_
    refine g_iload_n (pc := 20) K 1 rfl rfl dX0_note_20 ?_
    replace h := Option.bind_eq_some_iff.mp h
    obtain ⟨a13, rfl, h⟩ := h
    replace h := Option.bind_eq_some_iff.mp h
    obtain ⟨σ15, e14, h⟩ := h
    refine g_iast (pc := 21) K e14 dX0_note_21 ?_
    refine g_aload_n (pc := 22) K 0 rfl rfl dX0_note_22 ?_
    replace h := Option.bind_eq_some_iff.mp h
    obtain ⟨r16, e17, h⟩ := h
    refine g_getR (pc := 23) K cl_0 hin_X0 (k := 3) (by decide) tb_129 rfl e17 dX0_note_23 ?_
    refine g_aload_n (pc := 26) K 0 rfl rfl dX0_note_26 ?_
    replace h := Option.bind_eq_some_iff.mp h
    obtain ⟨x18, e19, h⟩ := h
    refine g_getI (pc := 27) K cl_0 hin_X0 (k := 8) (by decide) tb_134 rfl e19 dX0_note_27 ?_
    refine g_iload_n (pc := 30) K 2 rfl rfl dX0_note_30 ?_
    replace h := Option.bind_eq_some_iff.mp h
    obtain ⟨a20, rfl, h⟩ := h
    replace h := Option.bind_eq_some_iff.mp h
    obtain ⟨σ22, e21, h⟩ := h
    refine g_iast (pc := 31) K e21 dX0_note_31 ?_
    refine g_aload_n (pc := 32) K 0 rfl rfl dX0_note_32 ?_
    replace h := Option.bind_eq_some_iff.mp h
    obtain ⟨r23, e24, h⟩ := h
    refine g_getR (pc := 33) K cl_0 hin_X0 (k := 4) (by decide) tb_130 rfl e24 dX0_note_33 ?_
    refine g_aload_n (pc := 36) K 0 rfl rfl dX0_note_36 ?_
    replace h := Option.bind_eq_some_iff.mp h
    obtain ⟨x25, e26, h⟩ := h
    refine g_getI (pc := 37) K cl_0 hin_X0 (k := 8) (by decide) tb_134 rfl e26 dX0_note_37 ?_
    refine g_iload_n (pc := 40) K 3 rfl rfl dX0_note_40 ?_
    replace h := Option.bind_eq_some_iff.mp h
    obtain ⟨a27, rfl, h⟩ := h
    replace h := Option.bind_eq_some_iff.mp h
    obtain ⟨z30, e31, h⟩ := h
    obtain ⟨rfl, e32⟩ := sw_z_eq e31
    replace h := Option.bind_eq_some_iff.mp h
    obtain ⟨σ29, e28, h⟩ := h
    refine g_zast (pc := 41) K e32.1 e28 dX0_note_41 ?_
    refine g_aload_n (pc := 42) K 0 rfl rfl dX0_note_42 ?_
    refine g_dup (pc := 43) K rfl dX0_note_43 ?_
    replace h := Option.bind_eq_some_iff.mp h
    obtain ⟨x33, e34, h⟩ := h
    refine g_getI (pc := 44) K cl_0 hin_X0 (k := 8) (by decide) tb_134 rfl e34 dX0_note_44 ?_
    refine g_iconst (pc := 47) (v := 1) K dX0_note_47 (by decide) ?_
    refine g_iadd (pc := 48) K dX0_note_48 ?_
    replace h := Option.bind_eq_some_iff.mp h
    obtain ⟨σ35, e36, h⟩ := h
    refine g_put (pc := 49) K cl_0 hin_X0 (k := 8) (by decide) tb_134 rfl tyX0 tyX0_ok nmX0 (Or.inl rfl) rfl rfl e36 dX0_note_49 ?_
    refine g_sub K [] rfl ?_
    exact w_X0_note_52 K hT   _ _ _ h (by omega) (by omega)

def b_X0_readLeftOut_76 (t0 : Int32) (σ : sw_S) : Option (Int32 × sw_S) :=
  (sw_z t0).bind fun z1 =>
  some (z1, σ)
set_option maxHeartbeats 4000000 in
set_option maxRecDepth 100000 in
theorem w_X0_readLeftOut_76 {p : Program} {l : Launch} {e : Env} {s : State} {m : MethodId} {args : Array Value} {below : List Frame} {meth : Method} {c : Code} {Q : State → Prop} {A : Nat → Prop} {D : va_G} {cT : Nat → ClassId} {r : Int32}  {σ' : sw_S}  (K : sw_C p s m args c cX0_readLeftOut 2 RX0 A D cT) (hT : sw_Tz cX0_readLeftOut p l e (sw_R 2 0 0 42) s m args below meth c Q 2 A D cT 0 0 σ' r) (t0 : Int32) (σ : sw_S)  (ce sl : Nat) (h : b_X0_readLeftOut_76 t0 σ = some (r, σ')) (hce : ce + (0) ≤ 0) (hsl : sl + (0) ≤ 0) : sw_G p l e (sw_R 2 0 0 42) s m args below meth c Q 2 A D cT σ ce sl 76 [] [I_ t0] := by
  unfold b_X0_readLeftOut_76 at h
  replace h := Option.bind_eq_some_iff.mp h
  obtain ⟨z1, e2, h⟩ := h
  obtain ⟨rfl, e3⟩ := sw_z_eq e2
  cases h
  exact hT _ _ 76 _ (by omega) (by omega) e3.1 dX0_readLeftOut_76
def b_X0_readLeftOut_14 (σ : sw_S) : Option (Int32 × sw_S) :=
  some (0, σ)
set_option maxHeartbeats 4000000 in
set_option maxRecDepth 100000 in
theorem w_X0_readLeftOut_14 {p : Program} {l : Launch} {e : Env} {s : State} {m : MethodId} {args : Array Value} {below : List Frame} {meth : Method} {c : Code} {Q : State → Prop} {A : Nat → Prop} {D : va_G} {cT : Nat → ClassId} {r : Int32}  {σ' : sw_S}  (K : sw_C p s m args c cX0_readLeftOut 2 RX0 A D cT) (hT : sw_Tz cX0_readLeftOut p l e (sw_R 2 0 0 42) s m args below meth c Q 2 A D cT 0 0 σ' r) (σ : sw_S)  (ce sl : Nat) (h : b_X0_readLeftOut_14  σ = some (r, σ')) (hce : ce + (0) ≤ 0) (hsl : sl + (0) ≤ 0) : sw_G p l e (sw_R 2 0 0 42) s m args below meth c Q 2 A D cT σ ce sl 14 [] [] := by
  unfold b_X0_readLeftOut_14 at h
  refine g_iconst (pc := 14) (v := 0) K dX0_readLeftOut_14 (by decide) ?_
  cases h
  exact hT _ _ 15 _ (by omega) (by omega) rfl dX0_readLeftOut_15
def f_X0_readLeftOut (p0 : Nat) (q1 : Int32) (σ : sw_S) : Option (Int32 × sw_S) :=
  (if 6 < q1 then
  b_X0_readLeftOut_14 σ
  else
  (sw_ob 0 p0 σ).bind fun f2 =>
  (f_X0_hasMore p0 4 σ).bind fun x5 =>
  (if x5 = 0 then
  b_X0_readLeftOut_14 σ
  else
  (sw_gI 0 p0 7 σ).bind fun x7 =>
  (sw_pt 0 p0 7 (.int ((x7 + 1))) σ).bind fun σ9 =>
  (sw_ob 0 p0 σ9).bind fun f11 =>
  sw_b2 (f_X0_next p0 σ9) fun x14 σ15 =>
  (sw_pt 0 p0 10 (.int x14) σ15).bind fun σ16 =>
  (sw_ob 0 p0 σ16).bind fun f18 =>
  sw_b2 (f_X0_next p0 σ16) fun x21 σ22 =>
  (sw_pt 0 p0 11 (.int x21) σ22).bind fun σ23 =>
  (sw_ob 0 p0 σ23).bind fun f25 =>
  sw_b2 (f_X0_next p0 σ23) fun x28 σ29 =>
  (sw_pt 0 p0 12 (.int x28) σ29).bind fun σ30 =>
  (sw_gI 0 p0 10 σ30).bind fun x32 =>
  (sw_gI 0 p0 12 σ30).bind fun x34 =>
  (sw_ob 0 p0 σ30).bind fun f36 =>
  (f_X0_note p0 x32 x34 1 σ30).bind fun σ39 =>
  (sw_gI 0 p0 12 σ39).bind fun x40 =>
  (if x40 < 1 then
  b_X0_readLeftOut_76 0 σ39
  else
  b_X0_readLeftOut_76 1 σ39)))
set_option maxHeartbeats 4000000 in
set_option maxRecDepth 100000 in
theorem c_X0_readLeftOut  (l : Launch) (D : va_G) (cT : Nat → ClassId) (p0 : Nat) (q1 : Int32) (σ : sw_S) {r : Int32} {σ' : sw_S} (h : f_X0_readLeftOut p0 q1 σ = some (r, σ')) : sw_M l D cT yX0_readLeftOut cX0_readLeftOut 2 (some .boolean) 2 42 0 0 σ [P_ (some p0), I_ q1] (some (I_ r)) σ' := by
  refine sw_met_z (by decide) (Nat.le_of_ble_eq_true rfl) (fun p e s m args below meth c A Q K hnm hT => ?_)
  have hce : 0 + 0 ≤ 0 := Nat.le_of_ble_eq_true rfl
  have hsl : 0 + 0 ≤ 0 := Nat.le_of_ble_eq_true rfl
  unfold f_X0_readLeftOut at h
  change sw_G p l e (sw_R 2 0 0 42) s m args below meth c Q 2 A D cT σ 0 0 0 [(0, P_ (some p0)), (1, I_ q1)] []
  refine g_iload_n (pc := 0) K 1 rfl rfl dX0_readLeftOut_0 ?_
  refine g_bipush (pc := 1) (v := 6) K dX0_readLeftOut_1 (by decide) ?_
  refine g_icmp_gt (pc := 3) K 14 dX0_readLeftOut_3 (by decide) (fun c1 => ?_) (fun c1 => ?_)
  · replace h := (if_pos c1).symm.trans h
    refine g_sub K [] rfl ?_
    exact w_X0_readLeftOut_14 K hT   _ _ _ h (by omega) (by omega)
  · replace h := (if_neg c1).symm.trans h
    refine g_aload_n (pc := 6) K 0 rfl rfl dX0_readLeftOut_6 ?_
    refine g_iconst (pc := 7) (v := 4) K dX0_readLeftOut_7 (by decide) ?_
    replace h := Option.bind_eq_some_iff.mp h
    obtain ⟨f2, e3, h⟩ := h
    replace h := Option.bind_eq_some_iff.mp h
    obtain ⟨x5, e4, h⟩ := h
    refine g_callV (pc := 8) (st := []) K [I_ 4] (c_X0_hasMore _ _ _ _ _ _ e4) e3 cl_0 rfl tb_409 tb_406 tb_5 tb_408 sl_12 hd_X0_hasMore ⟨Nat.le_of_ble_eq_true rfl, Nat.le_of_ble_eq_true rfl⟩ rfl (sw_rm (Nat.le_of_ble_eq_true rfl)) ⟨by show _ ≤ 0; omega, by show _ ≤ 0; omega⟩ dX0_readLeftOut_8 ?_
    refine g_if_ne (pc := 11) K 16 dX0_readLeftOut_11 (by decide) (fun c6 => ?_) (fun c6 => ?_)
    · replace h := (if_pos c6).symm.trans h
      refine g_sub K [] rfl ?_
      exact w_X0_readLeftOut_14 K hT   _ _ _ h (by omega) (by omega)
    · replace h := (if_neg c6).symm.trans h
      refine g_aload_n (pc := 16) K 0 rfl rfl dX0_readLeftOut_16 ?_
      refine g_dup (pc := 17) K rfl dX0_readLeftOut_17 ?_
      replace h := Option.bind_eq_some_iff.mp h
      obtain ⟨x7, e8, h⟩ := h
      refine g_getI (pc := 18) K cl_0 hin_X0 (k := 7) (by decide) tb_133 rfl e8 dX0_readLeftOut_18 ?_
      refine g_iconst (pc := 21) (v := 1) K dX0_readLeftOut_21 (by decide) ?_
      refine g_iadd (pc := 22) K dX0_readLeftOut_22 ?_
      replace h := Option.bind_eq_some_iff.mp h
      obtain ⟨σ9, e10, h⟩ := h
      refine g_put (pc := 23) K cl_0 hin_X0 (k := 7) (by decide) tb_133 rfl tyX0 tyX0_ok nmX0 (Or.inl rfl) rfl rfl e10 dX0_readLeftOut_23 ?_
      refine g_aload_n (pc := 26) K 0 rfl rfl dX0_readLeftOut_26 ?_
      refine g_aload_n (pc := 27) K 0 rfl rfl dX0_readLeftOut_27 ?_
      replace h := Option.bind_eq_some_iff.mp h
      obtain ⟨f11, e12, h⟩ := h
      replace h := sw_b2_eq h
      obtain ⟨x14, σ15, e13, h⟩ := h
      refine g_callV (pc := 28) (st := [P_ (some p0)]) K [] (c_X0_next _ _ _ _ _ e13) e12 cl_0 rfl tb_413 tb_410 tb_5 tb_412 sl_13 hd_X0_next ⟨Nat.le_of_ble_eq_true rfl, Nat.le_of_ble_eq_true rfl⟩ rfl (sw_rm (Nat.le_of_ble_eq_true rfl)) ⟨by show _ ≤ 0; omega, by show _ ≤ 0; omega⟩ dX0_readLeftOut_28 ?_
      replace h := Option.bind_eq_some_iff.mp h
      obtain ⟨σ16, e17, h⟩ := h
      refine g_put (pc := 31) K cl_0 hin_X0 (k := 10) (by decide) tb_136 rfl tyX0 tyX0_ok nmX0 (Or.inl rfl) rfl rfl e17 dX0_readLeftOut_31 ?_
      refine g_aload_n (pc := 34) K 0 rfl rfl dX0_readLeftOut_34 ?_
      refine g_aload_n (pc := 35) K 0 rfl rfl dX0_readLeftOut_35 ?_
      replace h := Option.bind_eq_some_iff.mp h
      obtain ⟨f18, e19, h⟩ := h
      replace h := sw_b2_eq h
      obtain ⟨x21, σ22, e20, h⟩ := h
      refine g_callV (pc := 36) (st := [P_ (some p0)]) K [] (c_X0_next _ _ _ _ _ e20) e19 cl_0 rfl tb_413 tb_410 tb_5 tb_412 sl_13 hd_X0_next ⟨Nat.le_of_ble_eq_true rfl, Nat.le_of_ble_eq_true rfl⟩ rfl (sw_rm (Nat.le_of_ble_eq_true rfl)) ⟨by show _ ≤ 0; omega, by show _ ≤ 0; omega⟩ dX0_readLeftOut_36 ?_
      replace h := Option.bind_eq_some_iff.mp h
      obtain ⟨σ23, e24, h⟩ := h
      refine g_put (pc := 39) K cl_0 hin_X0 (k := 11) (by decide) tb_137 rfl tyX0 tyX0_ok nmX0 (Or.inl rfl) rfl rfl e24 dX0_readLeftOut_39 ?_
      refine g_aload_n (pc := 42) K 0 rfl rfl dX0_readLeftOut_42 ?_
      refine g_aload_n (pc := 43) K 0 rfl rfl dX0_readLeftOut_43 ?_
      replace h := Option.bind_eq_some_iff.mp h
      obtain ⟨f25, e26, h⟩ := h
      replace h := sw_b2_eq h
      obtain ⟨x28, σ29, e27, h⟩ := h
      refine g_callV (pc := 44) (st := [P_ (some p0)]) K [] (c_X0_next _ _ _ _ _ e27) e26 cl_0 rfl tb_413 tb_410 tb_5 tb_412 sl_13 hd_X0_next ⟨Nat.le_of_ble_eq_true rfl, Nat.le_of_ble_eq_true rfl⟩ rfl (sw_rm (Nat.le_of_ble_eq_true rfl)) ⟨by show _ ≤ 0; omega, by show _ ≤ 0; omega⟩ dX0_readLeftOut_44 ?_
      replace h := Option.bind_eq_some_iff.mp h
      obtain ⟨σ30, e31, h⟩ := h
      refine g_put (pc := 47) K cl_0 hin_X0 (k := 12) (by decide) tb_138 rfl tyX0 tyX0_ok nmX0 (Or.inl rfl) rfl rfl e31 dX0_readLeftOut_47 ?_
      refine g_aload_n (pc := 50) K 0 rfl rfl dX0_readLeftOut_50 ?_
      refine g_aload_n (pc := 51) K 0 rfl rfl dX0_readLeftOut_51 ?_
      replace h := Option.bind_eq_some_iff.mp h
      obtain ⟨x32, e33, h⟩ := h
      refine g_getI (pc := 52) K cl_0 hin_X0 (k := 10) (by decide) tb_136 rfl e33 dX0_readLeftOut_52 ?_
      refine g_aload_n (pc := 55) K 0 rfl rfl dX0_readLeftOut_55 ?_
      replace h := Option.bind_eq_some_iff.mp h
      obtain ⟨x34, e35, h⟩ := h
      refine g_getI (pc := 56) K cl_0 hin_X0 (k := 12) (by decide) tb_138 rfl e35 dX0_readLeftOut_56 ?_
      refine g_iconst (pc := 59) (v := 1) K dX0_readLeftOut_59 (by decide) ?_
      replace h := Option.bind_eq_some_iff.mp h
      obtain ⟨f36, e37, h⟩ := h
      replace h := Option.bind_eq_some_iff.mp h
      obtain ⟨σ39, e38, h⟩ := h
      refine g_callV (pc := 60) (st := []) K [I_ x32, I_ x34, I_ 1] (c_X0_note _ _ _ _ _ _ _ _ e38) e37 cl_0 rfl tb_423 tb_420 tb_5 tb_422 sl_15 hd_X0_note ⟨Nat.le_of_ble_eq_true rfl, Nat.le_of_ble_eq_true rfl⟩ rfl (sw_rm (Nat.le_of_ble_eq_true rfl)) ⟨by show _ ≤ 0; omega, by show _ ≤ 0; omega⟩ dX0_readLeftOut_60 ?_
      refine g_aload_n (pc := 63) K 0 rfl rfl dX0_readLeftOut_63 ?_
      replace h := Option.bind_eq_some_iff.mp h
      obtain ⟨x40, e41, h⟩ := h
      refine g_getI (pc := 64) K cl_0 hin_X0 (k := 12) (by decide) tb_138 rfl e41 dX0_readLeftOut_64 ?_
      refine g_iconst (pc := 67) (v := 1) K dX0_readLeftOut_67 (by decide) ?_
      refine g_icmp_lt (pc := 68) K 75 dX0_readLeftOut_68 (by decide) (fun c42 => ?_) (fun c42 => ?_)
      · replace h := (if_pos c42).symm.trans h
        refine g_iconst (pc := 75) (v := 0) K dX0_readLeftOut_75 (by decide) ?_
        refine g_sub K [] rfl ?_
        exact w_X0_readLeftOut_76 K hT  _ _ _ _ h (by omega) (by omega)
      · replace h := (if_neg c42).symm.trans h
        refine g_iconst (pc := 71) (v := 1) K dX0_readLeftOut_71 (by decide) ?_
        refine g_goto (pc := 72) (tgt := 76) K dX0_readLeftOut_72 (by decide) ?_
        refine g_sub K [] rfl ?_
        exact w_X0_readLeftOut_76 K hT  _ _ _ _ h (by omega) (by omega)

def b_X0_noteChild_45 (σ : sw_S) : Option sw_S :=
  some σ
set_option maxHeartbeats 4000000 in
set_option maxRecDepth 100000 in
theorem w_X0_noteChild_45 {p : Program} {l : Launch} {e : Env} {s : State} {m : MethodId} {args : Array Value} {below : List Frame} {meth : Method} {c : Code} {Q : State → Prop} {A : Nat → Prop} {D : va_G} {cT : Nat → ClassId} {σ' : sw_S}  (K : sw_C p s m args c cX0_noteChild 2 RX0 A D cT) (hT : sw_Tv cX0_noteChild p l e (sw_R 0 0 0 0) s m args below meth c Q 2 A D cT 0 0 σ') (σ : sw_S)  (ce sl : Nat) (h : b_X0_noteChild_45  σ = some σ') (hce : ce + (0) ≤ 0) (hsl : sl + (0) ≤ 0) : sw_G p l e (sw_R 0 0 0 0) s m args below meth c Q 2 A D cT σ ce sl 45 [] [] := by
  unfold b_X0_noteChild_45 at h
  cases h
  exact hT _ _ 45 _ (by omega) (by omega) dX0_noteChild_45
def f_X0_noteChild (p0 : Nat) (q1 : Int32) (σ : sw_S) : Option sw_S :=
  (sw_gI 0 p0 9 σ).bind fun x1 =>
  (sw_gR 0 p0 5 σ).bind fun r3 =>
  r3.bind fun a5 =>
  (sw_len a5 σ).bind fun x6 =>
  (if x6 ≤ x1 then
  b_X0_noteChild_45 σ
  else
  (sw_gR 0 p0 5 σ).bind fun r9 =>
  (sw_gI 0 p0 9 σ).bind fun x11 =>
  r9.bind fun a13 =>
  (sw_as 0 a13 x11 q1 σ).bind fun σ15 =>
  (sw_gR 0 p0 6 σ15).bind fun r16 =>
  (sw_gI 0 p0 9 σ15).bind fun x18 =>
  (sw_gI 0 p0 8 σ15).bind fun x20 =>
  r16.bind fun a22 =>
  (sw_as 0 a22 x18 x20 σ15).bind fun σ24 =>
  (sw_gI 0 p0 9 σ24).bind fun x25 =>
  (sw_pt 0 p0 9 (.int ((x25 + 1))) σ24).bind fun σ27 =>
  b_X0_noteChild_45 σ27)
set_option maxHeartbeats 4000000 in
set_option maxRecDepth 100000 in
theorem c_X0_noteChild  (l : Launch) (D : va_G) (cT : Nat → ClassId) (p0 : Nat) (q1 : Int32) (σ : sw_S) {σ' : sw_S} (h : f_X0_noteChild p0 q1 σ = some σ') : sw_M l D cT yX0_noteChild cX0_noteChild 2 none 0 0 0 0 σ [P_ (some p0), I_ q1] none σ' := by
  refine sw_met_v (by decide) (Nat.le_of_ble_eq_true rfl) (fun p e s m args below meth c A Q K hnm hT => ?_)
  have hce : 0 + 0 ≤ 0 := Nat.le_of_ble_eq_true rfl
  have hsl : 0 + 0 ≤ 0 := Nat.le_of_ble_eq_true rfl
  unfold f_X0_noteChild at h
  change sw_G p l e (sw_R 0 0 0 0) s m args below meth c Q 2 A D cT σ 0 0 0 [(0, P_ (some p0)), (1, I_ q1)] []
  refine g_aload_n (pc := 0) K 0 rfl rfl dX0_noteChild_0 ?_
  replace h := Option.bind_eq_some_iff.mp h
  obtain ⟨x1, e2, h⟩ := h
  refine g_getI (pc := 1) K cl_0 hin_X0 (k := 9) (by decide) tb_135 rfl e2 dX0_noteChild_1 ?_
  refine g_aload_n (pc := 4) K 0 rfl rfl dX0_noteChild_4 ?_
  replace h := Option.bind_eq_some_iff.mp h
  obtain ⟨r3, e4, h⟩ := h
  refine g_getR (pc := 5) K cl_0 hin_X0 (k := 5) (by decide) tb_131 rfl e4 dX0_noteChild_5 ?_
  replace h := Option.bind_eq_some_iff.mp h
  obtain ⟨a5, rfl, h⟩ := h
  replace h := Option.bind_eq_some_iff.mp h
  obtain ⟨x6, e7, h⟩ := h
  refine g_alen (pc := 8) K e7 dX0_noteChild_8 ?_
  refine g_icmp_ge (pc := 9) K 45 dX0_noteChild_9 (by decide) (fun c8 => ?_) (fun c8 => ?_)
  · replace h := (if_pos c8).symm.trans h
    refine g_sub K [] rfl ?_
    exact w_X0_noteChild_45 K hT   _ _ _ h (by omega) (by omega)
  · replace h := (if_neg c8).symm.trans h
    refine g_aload_n (pc := 12) K 0 rfl rfl dX0_noteChild_12 ?_
    replace h := Option.bind_eq_some_iff.mp h
    obtain ⟨r9, e10, h⟩ := h
    refine g_getR (pc := 13) K cl_0 hin_X0 (k := 5) (by decide) tb_131 rfl e10 dX0_noteChild_13 ?_
    refine g_aload_n (pc := 16) K 0 rfl rfl dX0_noteChild_16 ?_
    replace h := Option.bind_eq_some_iff.mp h
    obtain ⟨x11, e12, h⟩ := h
    refine g_getI (pc := 17) K cl_0 hin_X0 (k := 9) (by decide) tb_135 rfl e12 dX0_noteChild_17 ?_
    refine g_iload_n (pc := 20) K 1 rfl rfl dX0_noteChild_20 ?_
    replace h := Option.bind_eq_some_iff.mp h
    obtain ⟨a13, rfl, h⟩ := h
    replace h := Option.bind_eq_some_iff.mp h
    obtain ⟨σ15, e14, h⟩ := h
    refine g_iast (pc := 21) K e14 dX0_noteChild_21 ?_
    refine g_aload_n (pc := 22) K 0 rfl rfl dX0_noteChild_22 ?_
    replace h := Option.bind_eq_some_iff.mp h
    obtain ⟨r16, e17, h⟩ := h
    refine g_getR (pc := 23) K cl_0 hin_X0 (k := 6) (by decide) tb_132 rfl e17 dX0_noteChild_23 ?_
    refine g_aload_n (pc := 26) K 0 rfl rfl dX0_noteChild_26 ?_
    replace h := Option.bind_eq_some_iff.mp h
    obtain ⟨x18, e19, h⟩ := h
    refine g_getI (pc := 27) K cl_0 hin_X0 (k := 9) (by decide) tb_135 rfl e19 dX0_noteChild_27 ?_
    refine g_aload_n (pc := 30) K 0 rfl rfl dX0_noteChild_30 ?_
    replace h := Option.bind_eq_some_iff.mp h
    obtain ⟨x20, e21, h⟩ := h
    refine g_getI (pc := 31) K cl_0 hin_X0 (k := 8) (by decide) tb_134 rfl e21 dX0_noteChild_31 ?_
    replace h := Option.bind_eq_some_iff.mp h
    obtain ⟨a22, rfl, h⟩ := h
    replace h := Option.bind_eq_some_iff.mp h
    obtain ⟨σ24, e23, h⟩ := h
    refine g_iast (pc := 34) K e23 dX0_noteChild_34 ?_
    refine g_aload_n (pc := 35) K 0 rfl rfl dX0_noteChild_35 ?_
    refine g_dup (pc := 36) K rfl dX0_noteChild_36 ?_
    replace h := Option.bind_eq_some_iff.mp h
    obtain ⟨x25, e26, h⟩ := h
    refine g_getI (pc := 37) K cl_0 hin_X0 (k := 9) (by decide) tb_135 rfl e26 dX0_noteChild_37 ?_
    refine g_iconst (pc := 40) (v := 1) K dX0_noteChild_40 (by decide) ?_
    refine g_iadd (pc := 41) K dX0_noteChild_41 ?_
    replace h := Option.bind_eq_some_iff.mp h
    obtain ⟨σ27, e28, h⟩ := h
    refine g_put (pc := 42) K cl_0 hin_X0 (k := 9) (by decide) tb_135 rfl tyX0 tyX0_ok nmX0 (Or.inl rfl) rfl rfl e28 dX0_noteChild_42 ?_
    refine g_sub K [] rfl ?_
    exact w_X0_noteChild_45 K hT   _ _ _ h (by omega) (by omega)
