def b_X8_readLeft_97 (t0 : Int32) (σ : sw_S) : Option (Int32 × sw_S) :=
  (sw_z t0).bind fun z1 =>
  some (z1, σ)
set_option maxHeartbeats 4000000 in
set_option maxRecDepth 100000 in
theorem w_X8_readLeft_97 {p : Program} {l : Launch} {e : Env} {s : State} {m : MethodId} {args : Array Value} {below : List Frame} {meth : Method} {c : Code} {Q : State → Prop} {A : Nat → Prop} {D : va_G} {cT : Nat → ClassId} {r : Int32}  {σ' : sw_S}  (K : sw_C p s m args c cX8_readLeft 2 RX8 A D cT) (hT : sw_Tz cX8_readLeft p l e (sw_R 1 0 0 22) s m args below meth c Q 2 A D cT 0 0 σ' r) (t0 : Int32) (σ : sw_S)  (ce sl : Nat) (h : b_X8_readLeft_97 t0 σ = some (r, σ')) (hce : ce + (0) ≤ 0) (hsl : sl + (0) ≤ 0) : sw_G p l e (sw_R 1 0 0 22) s m args below meth c Q 2 A D cT σ ce sl 97 [] [I_ t0] := by
  unfold b_X8_readLeft_97 at h
  replace h := Option.bind_eq_some_iff.mp h
  obtain ⟨z1, e2, h⟩ := h
  obtain ⟨rfl, e3⟩ := sw_z_eq e2
  cases h
  exact hT _ _ 97 _ (by omega) (by omega) e3.1 dX8_readLeft_97
def b_X8_readLeft_96 (σ : sw_S) : Option (Int32 × sw_S) :=
  b_X8_readLeft_97 0 σ
set_option maxHeartbeats 4000000 in
set_option maxRecDepth 100000 in
theorem w_X8_readLeft_96 {p : Program} {l : Launch} {e : Env} {s : State} {m : MethodId} {args : Array Value} {below : List Frame} {meth : Method} {c : Code} {Q : State → Prop} {A : Nat → Prop} {D : va_G} {cT : Nat → ClassId} {r : Int32}  {σ' : sw_S}  (K : sw_C p s m args c cX8_readLeft 2 RX8 A D cT) (hT : sw_Tz cX8_readLeft p l e (sw_R 1 0 0 22) s m args below meth c Q 2 A D cT 0 0 σ' r) (σ : sw_S)  (ce sl : Nat) (h : b_X8_readLeft_96  σ = some (r, σ')) (hce : ce + (0) ≤ 0) (hsl : sl + (0) ≤ 0) : sw_G p l e (sw_R 1 0 0 22) s m args below meth c Q 2 A D cT σ ce sl 96 [] [] := by
  unfold b_X8_readLeft_96 at h
  refine g_iconst (pc := 96) (v := 0) K dX8_readLeft_96 (by decide) ?_
  refine g_sub K [] rfl ?_
  exact w_X8_readLeft_97 K hT  _ _ _ _ h (by omega) (by omega)
def f_X8_readLeft (p0 : Nat) (q1 : Int32) (σ : sw_S) : Option (Int32 × sw_S) :=
  (sw_ob 8 p0 σ).bind fun f1 =>
  (f_X8_there p0 3 σ).bind fun x4 =>
  (if x4 = 0 then
  some (0, σ)
  else
  (sw_gR 8 p0 21 σ).bind fun r6 =>
  (sw_gR 8 p0 11 σ).bind fun r8 =>
  (sw_gI 8 p0 26 σ).bind fun x10 =>
  r8.bind fun a12 =>
  (sw_al 0 a12 x10 σ).bind fun x14 =>
  r6.bind fun a15 =>
  (sw_as 0 a15 q1 x14 σ).bind fun σ17 =>
  (sw_gR 8 p0 22 σ17).bind fun r18 =>
  (sw_gR 8 p0 11 σ17).bind fun r20 =>
  (sw_gI 8 p0 26 σ17).bind fun x22 =>
  r20.bind fun a24 =>
  (sw_al 0 a24 ((x22 + 1)) σ17).bind fun x26 =>
  r18.bind fun a27 =>
  (sw_as 0 a27 q1 x26 σ17).bind fun σ29 =>
  (sw_gR 8 p0 23 σ29).bind fun r30 =>
  (sw_gR 8 p0 11 σ29).bind fun r32 =>
  (sw_gI 8 p0 26 σ29).bind fun x34 =>
  r32.bind fun a36 =>
  (sw_al 0 a36 ((x34 + 2)) σ29).bind fun x38 =>
  r30.bind fun a39 =>
  (sw_as 0 a39 q1 x38 σ29).bind fun σ41 =>
  (sw_gI 8 p0 26 σ41).bind fun x42 =>
  (sw_pt 8 p0 26 (.int ((x42 + 3))) σ41).bind fun σ44 =>
  (sw_gR 8 p0 23 σ44).bind fun r46 =>
  r46.bind fun a48 =>
  (sw_al 0 a48 q1 σ44).bind fun x50 =>
  (if x50 < 1 then
  b_X8_readLeft_96 σ44
  else
  (sw_gR 8 p0 21 σ44).bind fun r52 =>
  r52.bind fun a54 =>
  (sw_al 0 a54 q1 σ44).bind fun x56 =>
  (sw_ob 8 p0 σ44).bind fun f57 =>
  sw_b2 (f_X8_rises p0 x56 σ44) fun x60 σ61 =>
  (if x60 = 0 then
  b_X8_readLeft_96 σ61
  else
  b_X8_readLeft_97 1 σ61)))
set_option maxHeartbeats 4000000 in
set_option maxRecDepth 100000 in
theorem c_X8_readLeft  (l : Launch) (D : va_G) (cT : Nat → ClassId) (p0 : Nat) (q1 : Int32) (σ : sw_S) {r : Int32} {σ' : sw_S} (h : f_X8_readLeft p0 q1 σ = some (r, σ')) : sw_M l D cT yX8_readLeft cX8_readLeft 2 (some .boolean) 1 22 0 0 σ [P_ (some p0), I_ q1] (some (I_ r)) σ' := by
  refine sw_met_z (by decide) (Nat.le_of_ble_eq_true rfl) (fun p e s m args below meth c A Q K hnm hT => ?_)
  have hce : 0 + 0 ≤ 0 := Nat.le_of_ble_eq_true rfl
  have hsl : 0 + 0 ≤ 0 := Nat.le_of_ble_eq_true rfl
  unfold f_X8_readLeft at h
  change sw_G p l e (sw_R 1 0 0 22) s m args below meth c Q 2 A D cT σ 0 0 0 [(0, P_ (some p0)), (1, I_ q1)] []
  refine g_aload_n (pc := 0) K 0 rfl rfl dX8_readLeft_0 ?_
  refine g_iconst (pc := 1) (v := 3) K dX8_readLeft_1 (by decide) ?_
  replace h := Option.bind_eq_some_iff.mp h
  obtain ⟨f1, e2, h⟩ := h
  replace h := Option.bind_eq_some_iff.mp h
  obtain ⟨x4, e3, h⟩ := h
  refine g_callV (pc := 2) (st := []) K [I_ 3] (c_X8_there _ _ _ _ _ _ e3) e2 cl_8 rfl tb_732 tb_729 tb_7 tb_731 sl_42 hd_X8_there ⟨Nat.le_of_ble_eq_true rfl, Nat.le_of_ble_eq_true rfl⟩ rfl (sw_rm (Nat.le_of_ble_eq_true rfl)) ⟨by show _ ≤ 0; omega, by show _ ≤ 0; omega⟩ dX8_readLeft_2 ?_
  refine g_if_ne (pc := 5) K 10 dX8_readLeft_5 (by decide) (fun c5 => ?_) (fun c5 => ?_)
  · replace h := (if_pos c5).symm.trans h
    refine g_iconst (pc := 8) (v := 0) K dX8_readLeft_8 (by decide) ?_
    cases h
    exact hT _ _ 9 _ (by omega) (by omega) rfl dX8_readLeft_9
  · replace h := (if_neg c5).symm.trans h
    refine g_aload_n (pc := 10) K 0 rfl rfl dX8_readLeft_10 ?_
    replace h := Option.bind_eq_some_iff.mp h
    obtain ⟨r6, e7, h⟩ := h
    refine g_getR (pc := 11) K cl_8 hin_X8 (k := 21) (by decide) tb_539 rfl e7 dX8_readLeft_11 ?_
    refine g_iload_n (pc := 14) K 1 rfl rfl dX8_readLeft_14 ?_
    refine g_aload_n (pc := 15) K 0 rfl rfl dX8_readLeft_15 ?_
    replace h := Option.bind_eq_some_iff.mp h
    obtain ⟨r8, e9, h⟩ := h
    refine g_getR (pc := 16) K cl_8 hin_X8 (k := 11) (by decide) tb_529 rfl e9 dX8_readLeft_16 ?_
    refine g_aload_n (pc := 19) K 0 rfl rfl dX8_readLeft_19 ?_
    replace h := Option.bind_eq_some_iff.mp h
    obtain ⟨x10, e11, h⟩ := h
    refine g_getI (pc := 20) K cl_8 hin_X8 (k := 26) (by decide) tb_544 rfl e11 dX8_readLeft_20 ?_
    replace h := Option.bind_eq_some_iff.mp h
    obtain ⟨a12, rfl, h⟩ := h
    replace h := Option.bind_eq_some_iff.mp h
    obtain ⟨x14, e13, h⟩ := h
    refine g_iald (pc := 23) K e13 dX8_readLeft_23 ?_
    replace h := Option.bind_eq_some_iff.mp h
    obtain ⟨a15, rfl, h⟩ := h
    replace h := Option.bind_eq_some_iff.mp h
    obtain ⟨σ17, e16, h⟩ := h
    refine g_iast (pc := 24) K e16 dX8_readLeft_24 ?_
    refine g_aload_n (pc := 25) K 0 rfl rfl dX8_readLeft_25 ?_
    replace h := Option.bind_eq_some_iff.mp h
    obtain ⟨r18, e19, h⟩ := h
    refine g_getR (pc := 26) K cl_8 hin_X8 (k := 22) (by decide) tb_540 rfl e19 dX8_readLeft_26 ?_
    refine g_iload_n (pc := 29) K 1 rfl rfl dX8_readLeft_29 ?_
    refine g_aload_n (pc := 30) K 0 rfl rfl dX8_readLeft_30 ?_
    replace h := Option.bind_eq_some_iff.mp h
    obtain ⟨r20, e21, h⟩ := h
    refine g_getR (pc := 31) K cl_8 hin_X8 (k := 11) (by decide) tb_529 rfl e21 dX8_readLeft_31 ?_
    refine g_aload_n (pc := 34) K 0 rfl rfl dX8_readLeft_34 ?_
    replace h := Option.bind_eq_some_iff.mp h
    obtain ⟨x22, e23, h⟩ := h
    refine g_getI (pc := 35) K cl_8 hin_X8 (k := 26) (by decide) tb_544 rfl e23 dX8_readLeft_35 ?_
    refine g_iconst (pc := 38) (v := 1) K dX8_readLeft_38 (by decide) ?_
    refine g_iadd (pc := 39) K dX8_readLeft_39 ?_
    replace h := Option.bind_eq_some_iff.mp h
    obtain ⟨a24, rfl, h⟩ := h
    replace h := Option.bind_eq_some_iff.mp h
    obtain ⟨x26, e25, h⟩ := h
    refine g_iald (pc := 40) K e25 dX8_readLeft_40 ?_
    replace h := Option.bind_eq_some_iff.mp h
    obtain ⟨a27, rfl, h⟩ := h
    replace h := Option.bind_eq_some_iff.mp h
    obtain ⟨σ29, e28, h⟩ := h
    refine g_iast (pc := 41) K e28 dX8_readLeft_41 ?_
    refine g_aload_n (pc := 42) K 0 rfl rfl dX8_readLeft_42 ?_
    replace h := Option.bind_eq_some_iff.mp h
    obtain ⟨r30, e31, h⟩ := h
    refine g_getR (pc := 43) K cl_8 hin_X8 (k := 23) (by decide) tb_541 rfl e31 dX8_readLeft_43 ?_
    refine g_iload_n (pc := 46) K 1 rfl rfl dX8_readLeft_46 ?_
    refine g_aload_n (pc := 47) K 0 rfl rfl dX8_readLeft_47 ?_
    replace h := Option.bind_eq_some_iff.mp h
    obtain ⟨r32, e33, h⟩ := h
    refine g_getR (pc := 48) K cl_8 hin_X8 (k := 11) (by decide) tb_529 rfl e33 dX8_readLeft_48 ?_
    refine g_aload_n (pc := 51) K 0 rfl rfl dX8_readLeft_51 ?_
    replace h := Option.bind_eq_some_iff.mp h
    obtain ⟨x34, e35, h⟩ := h
    refine g_getI (pc := 52) K cl_8 hin_X8 (k := 26) (by decide) tb_544 rfl e35 dX8_readLeft_52 ?_
    refine g_iconst (pc := 55) (v := 2) K dX8_readLeft_55 (by decide) ?_
    refine g_iadd (pc := 56) K dX8_readLeft_56 ?_
    replace h := Option.bind_eq_some_iff.mp h
    obtain ⟨a36, rfl, h⟩ := h
    replace h := Option.bind_eq_some_iff.mp h
    obtain ⟨x38, e37, h⟩ := h
    refine g_iald (pc := 57) K e37 dX8_readLeft_57 ?_
    replace h := Option.bind_eq_some_iff.mp h
    obtain ⟨a39, rfl, h⟩ := h
    replace h := Option.bind_eq_some_iff.mp h
    obtain ⟨σ41, e40, h⟩ := h
    refine g_iast (pc := 58) K e40 dX8_readLeft_58 ?_
    refine g_aload_n (pc := 59) K 0 rfl rfl dX8_readLeft_59 ?_
    refine g_aload_n (pc := 60) K 0 rfl rfl dX8_readLeft_60 ?_
    replace h := Option.bind_eq_some_iff.mp h
    obtain ⟨x42, e43, h⟩ := h
    refine g_getI (pc := 61) K cl_8 hin_X8 (k := 26) (by decide) tb_544 rfl e43 dX8_readLeft_61 ?_
    refine g_iconst (pc := 64) (v := 3) K dX8_readLeft_64 (by decide) ?_
    refine g_iadd (pc := 65) K dX8_readLeft_65 ?_
    replace h := Option.bind_eq_some_iff.mp h
    obtain ⟨σ44, e45, h⟩ := h
    refine g_put (pc := 66) K cl_8 hin_X8 (k := 26) (by decide) tb_544 rfl tyX8 tyX8_ok nmX8 (Or.inl rfl) rfl rfl e45 dX8_readLeft_66 ?_
    refine g_aload_n (pc := 69) K 0 rfl rfl dX8_readLeft_69 ?_
    replace h := Option.bind_eq_some_iff.mp h
    obtain ⟨r46, e47, h⟩ := h
    refine g_getR (pc := 70) K cl_8 hin_X8 (k := 23) (by decide) tb_541 rfl e47 dX8_readLeft_70 ?_
    refine g_iload_n (pc := 73) K 1 rfl rfl dX8_readLeft_73 ?_
    replace h := Option.bind_eq_some_iff.mp h
    obtain ⟨a48, rfl, h⟩ := h
    replace h := Option.bind_eq_some_iff.mp h
    obtain ⟨x50, e49, h⟩ := h
    refine g_iald (pc := 74) K e49 dX8_readLeft_74 ?_
    refine g_iconst (pc := 75) (v := 1) K dX8_readLeft_75 (by decide) ?_
    refine g_icmp_lt (pc := 76) K 96 dX8_readLeft_76 (by decide) (fun c51 => ?_) (fun c51 => ?_)
    · replace h := (if_pos c51).symm.trans h
      refine g_sub K [] rfl ?_
      exact w_X8_readLeft_96 K hT   _ _ _ h (by omega) (by omega)
    · replace h := (if_neg c51).symm.trans h
      refine g_aload_n (pc := 79) K 0 rfl rfl dX8_readLeft_79 ?_
      refine g_aload_n (pc := 80) K 0 rfl rfl dX8_readLeft_80 ?_
      replace h := Option.bind_eq_some_iff.mp h
      obtain ⟨r52, e53, h⟩ := h
      refine g_getR (pc := 81) K cl_8 hin_X8 (k := 21) (by decide) tb_539 rfl e53 dX8_readLeft_81 ?_
      refine g_iload_n (pc := 84) K 1 rfl rfl dX8_readLeft_84 ?_
      replace h := Option.bind_eq_some_iff.mp h
      obtain ⟨a54, rfl, h⟩ := h
      replace h := Option.bind_eq_some_iff.mp h
      obtain ⟨x56, e55, h⟩ := h
      refine g_iald (pc := 85) K e55 dX8_readLeft_85 ?_
      replace h := Option.bind_eq_some_iff.mp h
      obtain ⟨f57, e58, h⟩ := h
      replace h := sw_b2_eq h
      obtain ⟨x60, σ61, e59, h⟩ := h
      refine g_callV (pc := 86) (st := []) K [I_ x56] (c_X8_rises _ _ _ _ _ _ e59) e58 cl_8 rfl tb_744 tb_741 tb_7 tb_743 sl_45 hd_X8_rises ⟨Nat.le_of_ble_eq_true rfl, Nat.le_of_ble_eq_true rfl⟩ rfl (sw_rm (Nat.le_of_ble_eq_true rfl)) ⟨by show _ ≤ 0; omega, by show _ ≤ 0; omega⟩ dX8_readLeft_86 ?_
      refine g_if_eq (pc := 89) K 96 dX8_readLeft_89 (by decide) (fun c62 => ?_) (fun c62 => ?_)
      · replace h := (if_pos c62).symm.trans h
        refine g_sub K [] rfl ?_
        exact w_X8_readLeft_96 K hT   _ _ _ h (by omega) (by omega)
      · replace h := (if_neg c62).symm.trans h
        refine g_iconst (pc := 92) (v := 1) K dX8_readLeft_92 (by decide) ?_
        refine g_goto (pc := 93) (tgt := 97) K dX8_readLeft_93 (by decide) ?_
        refine g_sub K [] rfl ?_
        exact w_X8_readLeft_97 K hT  _ _ _ _ h (by omega) (by omega)

def B_X8_depth_4 (rec4 : Nat → Int32 → Int32 → sw_S → Option Int32) (v0 : Nat) (v2 : Int32) (v3 : Int32) (σ : sw_S) : Option Int32 :=
  (if v3 ≤ 0 then
  some v2
  else
  (sw_gR 8 v0 18 σ).bind fun r2 =>
  r2.bind fun a4 =>
  (sw_al 0 a4 v3 σ).bind fun x6 =>
  rec4 v0 ((v2 + 1)) x6 σ)
set_option maxHeartbeats 4000000 in
set_option maxRecDepth 100000 in
theorem wB_X8_depth_4 {p : Program} {l : Launch} {e : Env} {s : State} {m : MethodId} {args : Array Value} {below : List Frame} {meth : Method} {c : Code} {Q : State → Prop} {A : Nat → Prop} {D : va_G} {cT : Nat → ClassId} {σ : sw_S}  {r : Int32}  (K : sw_C p s m args c cX8_depth 4 RX8 A D cT) (hT : sw_Ti cX8_depth p l e (sw_R 0 0 0 0) s m args below meth c Q 4 A D cT 0 0 σ r) {rec4 : Nat → Int32 → Int32 → sw_S → Option Int32} (hrec4 : ∀ (v0 : Nat) (v2 : Int32) (v3 : Int32) (ce sl : Nat), rec4 v0 v2 v3 σ = some r → ce + (0) ≤ 0 → sl + (0) ≤ 0 → sw_G p l e (sw_R 0 0 0 0) s m args below meth c Q 4 A D cT σ ce sl 4 [(0, P_ (some v0)), (2, I_ v2), (3, I_ v3)] []) (v0 : Nat) (v2 : Int32) (v3 : Int32) (ce sl : Nat) (h : B_X8_depth_4 rec4 v0 v2 v3 σ = some r) (hce : ce + (0) ≤ 0) (hsl : sl + (0) ≤ 0) : sw_G p l e (sw_R 0 0 0 0) s m args below meth c Q 4 A D cT σ ce sl 4 [(0, P_ (some v0)), (2, I_ v2), (3, I_ v3)] [] := by
  unfold B_X8_depth_4 at h
  refine g_iload_n (pc := 4) K 2 rfl rfl dX8_depth_4 ?_
  refine g_if_le (pc := 5) K 21 dX8_depth_5 (by decide) (fun c1 => ?_) (fun c1 => ?_)
  · replace h := (if_pos c1).symm.trans h
    refine g_iload_n (pc := 21) K 1 rfl rfl dX8_depth_21 ?_
    cases h
    exact hT _ _ 22 _ (by omega) (by omega) dX8_depth_22
  · replace h := (if_neg c1).symm.trans h
    refine g_aload_n (pc := 8) K 0 rfl rfl dX8_depth_8 ?_
    replace h := Option.bind_eq_some_iff.mp h
    obtain ⟨r2, e3, h⟩ := h
    refine g_getR (pc := 9) K cl_8 hin_X8 (k := 18) (by decide) tb_536 rfl e3 dX8_depth_9 ?_
    refine g_iload_n (pc := 12) K 2 rfl rfl dX8_depth_12 ?_
    replace h := Option.bind_eq_some_iff.mp h
    obtain ⟨a4, rfl, h⟩ := h
    replace h := Option.bind_eq_some_iff.mp h
    obtain ⟨x6, e5, h⟩ := h
    refine g_iald (pc := 13) K e5 dX8_depth_13 ?_
    refine g_istore_n (pc := 14) K [(3, I_ x6), (0, P_ (some v0)), (2, I_ v2)] rfl (by decide) rfl dX8_depth_14 ?_
    refine g_iinc (pc := 15) K 2 (v2 + 1) [(2, I_ ((v2 + 1))), (3, I_ x6), (0, P_ (some v0))] rfl rfl (by decide) rfl dX8_depth_15 ?_
    refine g_goto (pc := 18) (tgt := 4) K dX8_depth_18 (by decide) ?_
    refine g_sub K [2, 0, 1] rfl ?_
    exact hrec4 _ _ _ _ _ h (by omega) (by omega)
def b_X8_depth_4  : Nat → Nat → Int32 → Int32 → sw_S → Option Int32
  | 0 => fun _ _ _ _ => none
  | n + 1 => B_X8_depth_4 (b_X8_depth_4  n)
theorem wl_X8_depth_4 {p : Program} {l : Launch} {e : Env} {s : State} {m : MethodId} {args : Array Value} {below : List Frame} {meth : Method} {c : Code} {Q : State → Prop} {A : Nat → Prop} {D : va_G} {cT : Nat → ClassId} {σ : sw_S}  {r : Int32}  (K : sw_C p s m args c cX8_depth 4 RX8 A D cT) (hT : sw_Ti cX8_depth p l e (sw_R 0 0 0 0) s m args below meth c Q 4 A D cT 0 0 σ r) : ∀ (n : Nat) (v0 : Nat) (v2 : Int32) (v3 : Int32) (ce sl : Nat), b_X8_depth_4  n v0 v2 v3 σ = some r → ce + (0) ≤ 0 → sl + (0) ≤ 0 → sw_G p l e (sw_R 0 0 0 0) s m args below meth c Q 4 A D cT σ ce sl 4 [(0, P_ (some v0)), (2, I_ v2), (3, I_ v3)] [] := by
  intro n
  induction n with
  | zero =>
    intro v0 v2 v3 ce sl h
    exact absurd (show none = some r from h) (by simp)
  | succ n ih =>
    intro v0 v2 v3 ce sl h hce hsl
    exact wB_X8_depth_4 K hT (fun _ _ _ _ _ h h1 h2 => ih _ _ _ _ _ h h1 h2) _ _ _ _ _ h hce hsl
def f_X8_depth (p0 : Nat) (q1 : Int32) (σ : sw_S) : Option Int32 :=
  b_X8_depth_4 1000 p0 1 q1 σ
set_option maxHeartbeats 4000000 in
set_option maxRecDepth 100000 in
theorem c_X8_depth  (l : Launch) (D : va_G) (cT : Nat → ClassId) (p0 : Nat) (q1 : Int32) (σ : sw_S) {r : Int32} (h : f_X8_depth p0 q1 σ = some r) : sw_M l D cT yX8_depth cX8_depth 4 (some .int) 0 0 0 0 σ [P_ (some p0), I_ q1] (some (I_ r)) σ := by
  refine sw_met_i (by decide) (Nat.le_of_ble_eq_true rfl) (fun p e s m args below meth c A Q K hnm hT => ?_)
  have hce : 0 + 0 ≤ 0 := Nat.le_of_ble_eq_true rfl
  have hsl : 0 + 0 ≤ 0 := Nat.le_of_ble_eq_true rfl
  unfold f_X8_depth at h
  change sw_G p l e (sw_R 0 0 0 0) s m args below meth c Q 4 A D cT σ 0 0 0 [(0, P_ (some p0)), (1, I_ q1)] []
  refine g_iconst (pc := 0) (v := 1) K dX8_depth_0 (by decide) ?_
  refine g_istore_n (pc := 1) K [(2, I_ 1), (0, P_ (some p0)), (1, I_ q1)] rfl (by decide) rfl dX8_depth_1 ?_
  refine g_iload_n (pc := 2) K 2 rfl rfl dX8_depth_2 ?_
  refine g_istore_n (pc := 3) K [(3, I_ q1), (2, I_ 1), (0, P_ (some p0)), (1, I_ q1)] rfl (by decide) rfl dX8_depth_3 ?_
  refine g_sub K [2, 1, 0] rfl ?_
  exact wl_X8_depth_4 K hT  1000 _ _ _ _ _ h (by omega) (by omega)

def b_X8_have_31 (rec6 : Nat → Int32 → Int32 → Int32 → sw_S → Option Int32) (v0 : Nat) (v1 : Int32) (v3 : Int32) (t0 : Int32) (σ : sw_S) : Option Int32 :=
  rec6 v0 v1 t0 ((v3 + 1)) σ
set_option maxHeartbeats 4000000 in
set_option maxRecDepth 100000 in
theorem w_X8_have_31 {p : Program} {l : Launch} {e : Env} {s : State} {m : MethodId} {args : Array Value} {below : List Frame} {meth : Method} {c : Code} {Q : State → Prop} {A : Nat → Prop} {D : va_G} {cT : Nat → ClassId} {σ : sw_S}  {r : Int32}  (K : sw_C p s m args c cX8_have 4 RX8 A D cT) (hT : sw_Ti cX8_have p l e (sw_R 0 0 0 0) s m args below meth c Q 4 A D cT 0 0 σ r) {rec6 : Nat → Int32 → Int32 → Int32 → sw_S → Option Int32} (hrec6 : ∀ (v0 : Nat) (v1 : Int32) (v2 : Int32) (v3 : Int32) (ce sl : Nat), rec6 v0 v1 v2 v3 σ = some r → ce + (0) ≤ 0 → sl + (0) ≤ 0 → sw_G p l e (sw_R 0 0 0 0) s m args below meth c Q 4 A D cT σ ce sl 6 [(0, P_ (some v0)), (1, I_ v1), (2, I_ v2), (3, I_ v3)] []) (v0 : Nat) (v1 : Int32) (v3 : Int32) (t0 : Int32) (ce sl : Nat) (h : b_X8_have_31 rec6 v0 v1 v3 t0 σ = some r) (hce : ce + (0) ≤ 0) (hsl : sl + (0) ≤ 0) : sw_G p l e (sw_R 0 0 0 0) s m args below meth c Q 4 A D cT σ ce sl 31 [(0, P_ (some v0)), (1, I_ v1), (3, I_ v3)] [I_ t0] := by
  unfold b_X8_have_31 at h
  refine g_istore_n (pc := 31) K [(2, I_ t0), (0, P_ (some v0)), (1, I_ v1), (3, I_ v3)] rfl (by decide) rfl dX8_have_31 ?_
  refine g_iinc (pc := 32) K 3 (v3 + 1) [(3, I_ ((v3 + 1))), (2, I_ t0), (0, P_ (some v0)), (1, I_ v1)] rfl rfl (by decide) rfl dX8_have_32 ?_
  refine g_goto (pc := 35) (tgt := 6) K dX8_have_35 (by decide) ?_
  refine g_sub K [2, 3, 1, 0] rfl ?_
  exact hrec6 _ _ _ _ _ _ h (by omega) (by omega)
def B_X8_have_6 (rec6 : Nat → Int32 → Int32 → Int32 → sw_S → Option Int32) (v0 : Nat) (v1 : Int32) (v2 : Int32) (v3 : Int32) (σ : sw_S) : Option Int32 :=
  (sw_gI 8 v0 16 σ).bind fun x1 =>
  (if x1 ≤ v3 then
  some v2
  else
  (sw_gR 8 v0 18 σ).bind fun r4 =>
  r4.bind fun a6 =>
  (sw_al 0 a6 v3 σ).bind fun x8 =>
  (if x8 = v1 then
  b_X8_have_31 rec6 v0 v1 v3 ((v2 + 1)) σ
  else
  b_X8_have_31 rec6 v0 v1 v3 v2 σ))
set_option maxHeartbeats 4000000 in
set_option maxRecDepth 100000 in
theorem wB_X8_have_6 {p : Program} {l : Launch} {e : Env} {s : State} {m : MethodId} {args : Array Value} {below : List Frame} {meth : Method} {c : Code} {Q : State → Prop} {A : Nat → Prop} {D : va_G} {cT : Nat → ClassId} {σ : sw_S}  {r : Int32}  (K : sw_C p s m args c cX8_have 4 RX8 A D cT) (hT : sw_Ti cX8_have p l e (sw_R 0 0 0 0) s m args below meth c Q 4 A D cT 0 0 σ r) {rec6 : Nat → Int32 → Int32 → Int32 → sw_S → Option Int32} (hrec6 : ∀ (v0 : Nat) (v1 : Int32) (v2 : Int32) (v3 : Int32) (ce sl : Nat), rec6 v0 v1 v2 v3 σ = some r → ce + (0) ≤ 0 → sl + (0) ≤ 0 → sw_G p l e (sw_R 0 0 0 0) s m args below meth c Q 4 A D cT σ ce sl 6 [(0, P_ (some v0)), (1, I_ v1), (2, I_ v2), (3, I_ v3)] []) (v0 : Nat) (v1 : Int32) (v2 : Int32) (v3 : Int32) (ce sl : Nat) (h : B_X8_have_6 rec6 v0 v1 v2 v3 σ = some r) (hce : ce + (0) ≤ 0) (hsl : sl + (0) ≤ 0) : sw_G p l e (sw_R 0 0 0 0) s m args below meth c Q 4 A D cT σ ce sl 6 [(0, P_ (some v0)), (1, I_ v1), (2, I_ v2), (3, I_ v3)] [] := by
  unfold B_X8_have_6 at h
  refine g_iload_n (pc := 6) K 3 rfl rfl dX8_have_6 ?_
  refine g_aload_n (pc := 7) K 0 rfl rfl dX8_have_7 ?_
  replace h := Option.bind_eq_some_iff.mp h
  obtain ⟨x1, e2, h⟩ := h
  refine g_getI (pc := 8) K cl_8 hin_X8 (k := 16) (by decide) tb_534 rfl e2 dX8_have_8 ?_
  refine g_icmp_ge (pc := 11) K 38 dX8_have_11 (by decide) (fun c3 => ?_) (fun c3 => ?_)
  · replace h := (if_pos c3).symm.trans h
    refine g_iload_n (pc := 38) K 2 rfl rfl dX8_have_38 ?_
    cases h
    exact hT _ _ 39 _ (by omega) (by omega) dX8_have_39
  · replace h := (if_neg c3).symm.trans h
    refine g_aload_n (pc := 14) K 0 rfl rfl dX8_have_14 ?_
    replace h := Option.bind_eq_some_iff.mp h
    obtain ⟨r4, e5, h⟩ := h
    refine g_getR (pc := 15) K cl_8 hin_X8 (k := 18) (by decide) tb_536 rfl e5 dX8_have_15 ?_
    refine g_iload_n (pc := 18) K 3 rfl rfl dX8_have_18 ?_
    replace h := Option.bind_eq_some_iff.mp h
    obtain ⟨a6, rfl, h⟩ := h
    replace h := Option.bind_eq_some_iff.mp h
    obtain ⟨x8, e7, h⟩ := h
    refine g_iald (pc := 19) K e7 dX8_have_19 ?_
    refine g_iload_n (pc := 20) K 1 rfl rfl dX8_have_20 ?_
    refine g_icmp_ne (pc := 21) K 30 dX8_have_21 (by decide) (fun c9 => ?_) (fun c9 => ?_)
    · replace h := (if_pos c9).symm.trans h
      refine g_iload_n (pc := 24) K 2 rfl rfl dX8_have_24 ?_
      refine g_iconst (pc := 25) (v := 1) K dX8_have_25 (by decide) ?_
      refine g_iadd (pc := 26) K dX8_have_26 ?_
      refine g_goto (pc := 27) (tgt := 31) K dX8_have_27 (by decide) ?_
      refine g_sub K [0, 1, 3] rfl ?_
      exact w_X8_have_31 K hT hrec6  _ _ _ _ _ _ h (by omega) (by omega)
    · replace h := (if_neg c9).symm.trans h
      refine g_iload_n (pc := 30) K 2 rfl rfl dX8_have_30 ?_
      refine g_sub K [0, 1, 3] rfl ?_
      exact w_X8_have_31 K hT hrec6  _ _ _ _ _ _ h (by omega) (by omega)
def b_X8_have_6  : Nat → Nat → Int32 → Int32 → Int32 → sw_S → Option Int32
  | 0 => fun _ _ _ _ _ => none
  | n + 1 => B_X8_have_6 (b_X8_have_6  n)
theorem wl_X8_have_6 {p : Program} {l : Launch} {e : Env} {s : State} {m : MethodId} {args : Array Value} {below : List Frame} {meth : Method} {c : Code} {Q : State → Prop} {A : Nat → Prop} {D : va_G} {cT : Nat → ClassId} {σ : sw_S}  {r : Int32}  (K : sw_C p s m args c cX8_have 4 RX8 A D cT) (hT : sw_Ti cX8_have p l e (sw_R 0 0 0 0) s m args below meth c Q 4 A D cT 0 0 σ r) : ∀ (n : Nat) (v0 : Nat) (v1 : Int32) (v2 : Int32) (v3 : Int32) (ce sl : Nat), b_X8_have_6  n v0 v1 v2 v3 σ = some r → ce + (0) ≤ 0 → sl + (0) ≤ 0 → sw_G p l e (sw_R 0 0 0 0) s m args below meth c Q 4 A D cT σ ce sl 6 [(0, P_ (some v0)), (1, I_ v1), (2, I_ v2), (3, I_ v3)] [] := by
  intro n
  induction n with
  | zero =>
    intro v0 v1 v2 v3 ce sl h
    exact absurd (show none = some r from h) (by simp)
  | succ n ih =>
    intro v0 v1 v2 v3 ce sl h hce hsl
    exact wB_X8_have_6 K hT (fun _ _ _ _ _ _ h h1 h2 => ih _ _ _ _ _ _ h h1 h2) _ _ _ _ _ _ h hce hsl
def f_X8_have (p0 : Nat) (q1 : Int32) (σ : sw_S) : Option Int32 :=
  b_X8_have_6 1000 p0 q1 0 ((q1 + 1)) σ
set_option maxHeartbeats 4000000 in
set_option maxRecDepth 100000 in
theorem c_X8_have  (l : Launch) (D : va_G) (cT : Nat → ClassId) (p0 : Nat) (q1 : Int32) (σ : sw_S) {r : Int32} (h : f_X8_have p0 q1 σ = some r) : sw_M l D cT yX8_have cX8_have 4 (some .int) 0 0 0 0 σ [P_ (some p0), I_ q1] (some (I_ r)) σ := by
  refine sw_met_i (by decide) (Nat.le_of_ble_eq_true rfl) (fun p e s m args below meth c A Q K hnm hT => ?_)
  have hce : 0 + 0 ≤ 0 := Nat.le_of_ble_eq_true rfl
  have hsl : 0 + 0 ≤ 0 := Nat.le_of_ble_eq_true rfl
  unfold f_X8_have at h
  change sw_G p l e (sw_R 0 0 0 0) s m args below meth c Q 4 A D cT σ 0 0 0 [(0, P_ (some p0)), (1, I_ q1)] []
  refine g_iconst (pc := 0) (v := 0) K dX8_have_0 (by decide) ?_
  refine g_istore_n (pc := 1) K [(2, I_ 0), (0, P_ (some p0)), (1, I_ q1)] rfl (by decide) rfl dX8_have_1 ?_
  refine g_iload_n (pc := 2) K 2 rfl rfl dX8_have_2 ?_
  refine g_iconst (pc := 3) (v := 1) K dX8_have_3 (by decide) ?_
  refine g_iadd (pc := 4) K dX8_have_4 ?_
  refine g_istore_n (pc := 5) K [(3, I_ ((q1 + 1))), (2, I_ 0), (0, P_ (some p0)), (1, I_ q1)] rfl (by decide) rfl dX8_have_5 ?_
  refine g_sub K [2, 3, 1, 0] rfl ?_
  exact wl_X8_have_6 K hT  1000 _ _ _ _ _ _ h (by omega) (by omega)

def b_X8_waiting_53 (v1 : Int32) (σ : sw_S) : Option Int32 :=
  some v1
set_option maxHeartbeats 4000000 in
set_option maxRecDepth 100000 in
theorem w_X8_waiting_53 {p : Program} {l : Launch} {e : Env} {s : State} {m : MethodId} {args : Array Value} {below : List Frame} {meth : Method} {c : Code} {Q : State → Prop} {A : Nat → Prop} {D : va_G} {cT : Nat → ClassId} {σ : sw_S}  {r : Int32}  (K : sw_C p s m args c cX8_waiting 2 RX8 A D cT) (hT : sw_Ti cX8_waiting p l e (sw_R 1 0 0 23) s m args below meth c Q 2 A D cT 0 0 σ r) (v1 : Int32) (ce sl : Nat) (h : b_X8_waiting_53 v1 σ = some r) (hce : ce + (0) ≤ 0) (hsl : sl + (0) ≤ 0) : sw_G p l e (sw_R 1 0 0 23) s m args below meth c Q 2 A D cT σ ce sl 53 [(1, I_ v1)] [] := by
  unfold b_X8_waiting_53 at h
  refine g_iload_n (pc := 53) K 0 rfl rfl dX8_waiting_53 ?_
  cases h
  exact hT _ _ 54 _ (by omega) (by omega) dX8_waiting_54
def b_X8_waiting_49 (rec7 : Nat → Int32 → sw_S → Option Int32) (v0 : Nat) (t0 : Int32) (σ : sw_S) : Option Int32 :=
  rec7 v0 t0 σ
set_option maxHeartbeats 4000000 in
set_option maxRecDepth 100000 in
theorem w_X8_waiting_49 {p : Program} {l : Launch} {e : Env} {s : State} {m : MethodId} {args : Array Value} {below : List Frame} {meth : Method} {c : Code} {Q : State → Prop} {A : Nat → Prop} {D : va_G} {cT : Nat → ClassId} {σ : sw_S}  {r : Int32}  (K : sw_C p s m args c cX8_waiting 2 RX8 A D cT) (hT : sw_Ti cX8_waiting p l e (sw_R 1 0 0 23) s m args below meth c Q 2 A D cT 0 0 σ r) {rec7 : Nat → Int32 → sw_S → Option Int32} (hrec7 : ∀ (v0 : Nat) (v1 : Int32) (ce sl : Nat), rec7 v0 v1 σ = some r → ce + (0) ≤ 0 → sl + (0) ≤ 0 → sw_G p l e (sw_R 1 0 0 23) s m args below meth c Q 2 A D cT σ ce sl 7 [(0, P_ (some v0)), (1, I_ v1)] []) (v0 : Nat) (t0 : Int32) (ce sl : Nat) (h : b_X8_waiting_49 rec7 v0 t0 σ = some r) (hce : ce + (0) ≤ 0) (hsl : sl + (0) ≤ 0) : sw_G p l e (sw_R 1 0 0 23) s m args below meth c Q 2 A D cT σ ce sl 49 [(0, P_ (some v0))] [I_ t0] := by
  unfold b_X8_waiting_49 at h
  refine g_istore_n (pc := 49) K [(1, I_ t0), (0, P_ (some v0))] rfl (by decide) rfl dX8_waiting_49 ?_
  refine g_goto (pc := 50) (tgt := 7) K dX8_waiting_50 (by decide) ?_
  refine g_sub K [1, 0] rfl ?_
  exact hrec7 _ _ _ _ h (by omega) (by omega)
def b_X8_waiting_35 (rec7 : Nat → Int32 → sw_S → Option Int32) (v0 : Nat) (v1 : Int32) (σ : sw_S) : Option Int32 :=
  (if v1 = 0 then
  b_X8_waiting_49 rec7 v0 ((-1)) σ
  else
  (sw_gR 8 v0 18 σ).bind fun r2 =>
  r2.bind fun a4 =>
  (sw_al 0 a4 v1 σ).bind fun x6 =>
  b_X8_waiting_49 rec7 v0 x6 σ)
set_option maxHeartbeats 4000000 in
set_option maxRecDepth 100000 in
theorem w_X8_waiting_35 {p : Program} {l : Launch} {e : Env} {s : State} {m : MethodId} {args : Array Value} {below : List Frame} {meth : Method} {c : Code} {Q : State → Prop} {A : Nat → Prop} {D : va_G} {cT : Nat → ClassId} {σ : sw_S}  {r : Int32}  (K : sw_C p s m args c cX8_waiting 2 RX8 A D cT) (hT : sw_Ti cX8_waiting p l e (sw_R 1 0 0 23) s m args below meth c Q 2 A D cT 0 0 σ r) {rec7 : Nat → Int32 → sw_S → Option Int32} (hrec7 : ∀ (v0 : Nat) (v1 : Int32) (ce sl : Nat), rec7 v0 v1 σ = some r → ce + (0) ≤ 0 → sl + (0) ≤ 0 → sw_G p l e (sw_R 1 0 0 23) s m args below meth c Q 2 A D cT σ ce sl 7 [(0, P_ (some v0)), (1, I_ v1)] []) (v0 : Nat) (v1 : Int32) (ce sl : Nat) (h : b_X8_waiting_35 rec7 v0 v1 σ = some r) (hce : ce + (0) ≤ 0) (hsl : sl + (0) ≤ 0) : sw_G p l e (sw_R 1 0 0 23) s m args below meth c Q 2 A D cT σ ce sl 35 [(0, P_ (some v0)), (1, I_ v1)] [] := by
  unfold b_X8_waiting_35 at h
  refine g_iload_n (pc := 35) K 1 rfl rfl dX8_waiting_35 ?_
  refine g_if_ne (pc := 36) K 43 dX8_waiting_36 (by decide) (fun c1 => ?_) (fun c1 => ?_)
  · replace h := (if_pos c1).symm.trans h
    refine g_iconst (pc := 39) (v := (-1)) K dX8_waiting_39 (by decide) ?_
    refine g_goto (pc := 40) (tgt := 49) K dX8_waiting_40 (by decide) ?_
    refine g_sub K [0] rfl ?_
    exact w_X8_waiting_49 K hT hrec7  _ _ _ _ h (by omega) (by omega)
  · replace h := (if_neg c1).symm.trans h
    refine g_aload_n (pc := 43) K 0 rfl rfl dX8_waiting_43 ?_
    replace h := Option.bind_eq_some_iff.mp h
    obtain ⟨r2, e3, h⟩ := h
    refine g_getR (pc := 44) K cl_8 hin_X8 (k := 18) (by decide) tb_536 rfl e3 dX8_waiting_44 ?_
    refine g_iload_n (pc := 47) K 1 rfl rfl dX8_waiting_47 ?_
    replace h := Option.bind_eq_some_iff.mp h
    obtain ⟨a4, rfl, h⟩ := h
    replace h := Option.bind_eq_some_iff.mp h
    obtain ⟨x6, e5, h⟩ := h
    refine g_iald (pc := 48) K e5 dX8_waiting_48 ?_
    refine g_sub K [0] rfl ?_
    exact w_X8_waiting_49 K hT hrec7  _ _ _ _ h (by omega) (by omega)
def B_X8_waiting_7 (rec7 : Nat → Int32 → sw_S → Option Int32) (v0 : Nat) (v1 : Int32) (σ : sw_S) : Option Int32 :=
  (if v1 < 0 then
  b_X8_waiting_53 v1 σ
  else
  (sw_gR 8 v0 17 σ).bind fun r2 =>
  r2.bind fun a4 =>
  (sw_al 0 a4 v1 σ).bind fun x6 =>
  (if x6 = 2 then
  (sw_ob 8 v0 σ).bind fun f8 =>
  (f_X8_have v0 v1 σ).bind fun x11 =>
  (sw_gR 8 v0 19 σ).bind fun r12 =>
  r12.bind fun a14 =>
  (sw_al 0 a14 v1 σ).bind fun x16 =>
  (if x11 = x16 then
  b_X8_waiting_35 rec7 v0 v1 σ
  else
  b_X8_waiting_53 v1 σ)
  else
  b_X8_waiting_35 rec7 v0 v1 σ))
set_option maxHeartbeats 4000000 in
set_option maxRecDepth 100000 in
theorem wB_X8_waiting_7 {p : Program} {l : Launch} {e : Env} {s : State} {m : MethodId} {args : Array Value} {below : List Frame} {meth : Method} {c : Code} {Q : State → Prop} {A : Nat → Prop} {D : va_G} {cT : Nat → ClassId} {σ : sw_S}  {r : Int32}  (K : sw_C p s m args c cX8_waiting 2 RX8 A D cT) (hT : sw_Ti cX8_waiting p l e (sw_R 1 0 0 23) s m args below meth c Q 2 A D cT 0 0 σ r) {rec7 : Nat → Int32 → sw_S → Option Int32} (hrec7 : ∀ (v0 : Nat) (v1 : Int32) (ce sl : Nat), rec7 v0 v1 σ = some r → ce + (0) ≤ 0 → sl + (0) ≤ 0 → sw_G p l e (sw_R 1 0 0 23) s m args below meth c Q 2 A D cT σ ce sl 7 [(0, P_ (some v0)), (1, I_ v1)] []) (v0 : Nat) (v1 : Int32) (ce sl : Nat) (h : B_X8_waiting_7 rec7 v0 v1 σ = some r) (hce : ce + (0) ≤ 0) (hsl : sl + (0) ≤ 0) : sw_G p l e (sw_R 1 0 0 23) s m args below meth c Q 2 A D cT σ ce sl 7 [(0, P_ (some v0)), (1, I_ v1)] [] := by
  unfold B_X8_waiting_7 at h
  refine g_iload_n (pc := 7) K 1 rfl rfl dX8_waiting_7 ?_
  refine g_if_lt (pc := 8) K 53 dX8_waiting_8 (by decide) (fun c1 => ?_) (fun c1 => ?_)
  · replace h := (if_pos c1).symm.trans h
    refine g_sub K [1] rfl ?_
    exact w_X8_waiting_53 K hT  _ _ _ h (by omega) (by omega)
  · replace h := (if_neg c1).symm.trans h
    refine g_aload_n (pc := 11) K 0 rfl rfl dX8_waiting_11 ?_
    replace h := Option.bind_eq_some_iff.mp h
    obtain ⟨r2, e3, h⟩ := h
    refine g_getR (pc := 12) K cl_8 hin_X8 (k := 17) (by decide) tb_535 rfl e3 dX8_waiting_12 ?_
    refine g_iload_n (pc := 15) K 1 rfl rfl dX8_waiting_15 ?_
    replace h := Option.bind_eq_some_iff.mp h
    obtain ⟨a4, rfl, h⟩ := h
    replace h := Option.bind_eq_some_iff.mp h
    obtain ⟨x6, e5, h⟩ := h
    refine g_iald (pc := 16) K e5 dX8_waiting_16 ?_
    refine g_iconst (pc := 17) (v := 2) K dX8_waiting_17 (by decide) ?_
    refine g_icmp_ne (pc := 18) K 35 dX8_waiting_18 (by decide) (fun c7 => ?_) (fun c7 => ?_)
    · replace h := (if_pos c7).symm.trans h
      refine g_aload_n (pc := 21) K 0 rfl rfl dX8_waiting_21 ?_
      refine g_iload_n (pc := 22) K 1 rfl rfl dX8_waiting_22 ?_
      replace h := Option.bind_eq_some_iff.mp h
      obtain ⟨f8, e9, h⟩ := h
      replace h := Option.bind_eq_some_iff.mp h
      obtain ⟨x11, e10, h⟩ := h
      refine g_callV (pc := 23) (st := []) K [I_ v1] (c_X8_have _ _ _ _ _ _ e10) e9 cl_8 rfl tb_756 tb_753 tb_7 tb_755 sl_48 hd_X8_have ⟨Nat.le_of_ble_eq_true rfl, Nat.le_of_ble_eq_true rfl⟩ rfl (sw_rm (Nat.le_of_ble_eq_true rfl)) ⟨by show _ ≤ 0; omega, by show _ ≤ 0; omega⟩ dX8_waiting_23 ?_
      refine g_aload_n (pc := 26) K 0 rfl rfl dX8_waiting_26 ?_
      replace h := Option.bind_eq_some_iff.mp h
      obtain ⟨r12, e13, h⟩ := h
      refine g_getR (pc := 27) K cl_8 hin_X8 (k := 19) (by decide) tb_537 rfl e13 dX8_waiting_27 ?_
      refine g_iload_n (pc := 30) K 1 rfl rfl dX8_waiting_30 ?_
      replace h := Option.bind_eq_some_iff.mp h
      obtain ⟨a14, rfl, h⟩ := h
      replace h := Option.bind_eq_some_iff.mp h
      obtain ⟨x16, e15, h⟩ := h
      refine g_iald (pc := 31) K e15 dX8_waiting_31 ?_
      refine g_icmp_ne (pc := 32) K 53 dX8_waiting_32 (by decide) (fun c17 => ?_) (fun c17 => ?_)
      · replace h := (if_pos c17).symm.trans h
        refine g_sub K [0, 1] rfl ?_
        exact w_X8_waiting_35 K hT hrec7  _ _ _ _ h (by omega) (by omega)
      · replace h := (if_neg c17).symm.trans h
        refine g_sub K [1] rfl ?_
        exact w_X8_waiting_53 K hT  _ _ _ h (by omega) (by omega)
    · replace h := (if_neg c7).symm.trans h
      refine g_sub K [0, 1] rfl ?_
      exact w_X8_waiting_35 K hT hrec7  _ _ _ _ h (by omega) (by omega)
def b_X8_waiting_7  : Nat → Nat → Int32 → sw_S → Option Int32
  | 0 => fun _ _ _ => none
  | n + 1 => B_X8_waiting_7 (b_X8_waiting_7  n)
theorem wl_X8_waiting_7 {p : Program} {l : Launch} {e : Env} {s : State} {m : MethodId} {args : Array Value} {below : List Frame} {meth : Method} {c : Code} {Q : State → Prop} {A : Nat → Prop} {D : va_G} {cT : Nat → ClassId} {σ : sw_S}  {r : Int32}  (K : sw_C p s m args c cX8_waiting 2 RX8 A D cT) (hT : sw_Ti cX8_waiting p l e (sw_R 1 0 0 23) s m args below meth c Q 2 A D cT 0 0 σ r) : ∀ (n : Nat) (v0 : Nat) (v1 : Int32) (ce sl : Nat), b_X8_waiting_7  n v0 v1 σ = some r → ce + (0) ≤ 0 → sl + (0) ≤ 0 → sw_G p l e (sw_R 1 0 0 23) s m args below meth c Q 2 A D cT σ ce sl 7 [(0, P_ (some v0)), (1, I_ v1)] [] := by
  intro n
  induction n with
  | zero =>
    intro v0 v1 ce sl h
    exact absurd (show none = some r from h) (by simp)
  | succ n ih =>
    intro v0 v1 ce sl h hce hsl
    exact wB_X8_waiting_7 K hT (fun _ _ _ _ h h1 h2 => ih _ _ _ _ h h1 h2) _ _ _ _ h hce hsl
def f_X8_waiting (p0 : Nat) (σ : sw_S) : Option Int32 :=
  (sw_gI 8 p0 16 σ).bind fun x1 =>
  b_X8_waiting_7 1000 p0 ((x1 - 1)) σ
set_option maxHeartbeats 4000000 in
set_option maxRecDepth 100000 in
theorem c_X8_waiting  (l : Launch) (D : va_G) (cT : Nat → ClassId) (p0 : Nat) (σ : sw_S) {r : Int32} (h : f_X8_waiting p0 σ = some r) : sw_M l D cT yX8_waiting cX8_waiting 2 (some .int) 1 23 0 0 σ [P_ (some p0)] (some (I_ r)) σ := by
  refine sw_met_i (by decide) (Nat.le_of_ble_eq_true rfl) (fun p e s m args below meth c A Q K hnm hT => ?_)
  have hce : 0 + 0 ≤ 0 := Nat.le_of_ble_eq_true rfl
  have hsl : 0 + 0 ≤ 0 := Nat.le_of_ble_eq_true rfl
  unfold f_X8_waiting at h
  change sw_G p l e (sw_R 1 0 0 23) s m args below meth c Q 2 A D cT σ 0 0 0 [(0, P_ (some p0))] []
  refine g_aload_n (pc := 0) K 0 rfl rfl dX8_waiting_0 ?_
  replace h := Option.bind_eq_some_iff.mp h
  obtain ⟨x1, e2, h⟩ := h
  refine g_getI (pc := 1) K cl_8 hin_X8 (k := 16) (by decide) tb_534 rfl e2 dX8_waiting_1 ?_
  refine g_iconst (pc := 4) (v := 1) K dX8_waiting_4 (by decide) ?_
  refine g_isub (pc := 5) K dX8_waiting_5 ?_
  refine g_istore_n (pc := 6) K [(1, I_ ((x1 - 1))), (0, P_ (some p0))] rfl (by decide) rfl dX8_waiting_6 ?_
  refine g_sub K [1, 0] rfl ?_
  exact wl_X8_waiting_7 K hT  1000 _ _ _ _ h (by omega) (by omega)

def b_X8_readNode_225 (t0 : Int32) (σ : sw_S) : Option (Int32 × sw_S) :=
  (sw_z t0).bind fun z1 =>
  some (z1, σ)
set_option maxHeartbeats 4000000 in
set_option maxRecDepth 100000 in
theorem w_X8_readNode_225 {p : Program} {l : Launch} {e : Env} {s : State} {m : MethodId} {args : Array Value} {below : List Frame} {meth : Method} {c : Code} {Q : State → Prop} {A : Nat → Prop} {D : va_G} {cT : Nat → ClassId} {r : Int32}  {σ' : sw_S}  (K : sw_C p s m args c cX8_readNode 5 RX8 A D cT) (hT : sw_Tz cX8_readNode p l e (sw_R 2 0 0 47) s m args below meth c Q 5 A D cT 0 0 σ' r) (t0 : Int32) (σ : sw_S)  (ce sl : Nat) (h : b_X8_readNode_225 t0 σ = some (r, σ')) (hce : ce + (0) ≤ 0) (hsl : sl + (0) ≤ 0) : sw_G p l e (sw_R 2 0 0 47) s m args below meth c Q 5 A D cT σ ce sl 225 [] [I_ t0] := by
  unfold b_X8_readNode_225 at h
  replace h := Option.bind_eq_some_iff.mp h
  obtain ⟨z1, e2, h⟩ := h
  obtain ⟨rfl, e3⟩ := sw_z_eq e2
  cases h
  exact hT _ _ 225 _ (by omega) (by omega) e3.1 dX8_readNode_225
def b_X8_readNode_224 (σ : sw_S) : Option (Int32 × sw_S) :=
  b_X8_readNode_225 0 σ
set_option maxHeartbeats 4000000 in
set_option maxRecDepth 100000 in
theorem w_X8_readNode_224 {p : Program} {l : Launch} {e : Env} {s : State} {m : MethodId} {args : Array Value} {below : List Frame} {meth : Method} {c : Code} {Q : State → Prop} {A : Nat → Prop} {D : va_G} {cT : Nat → ClassId} {r : Int32}  {σ' : sw_S}  (K : sw_C p s m args c cX8_readNode 5 RX8 A D cT) (hT : sw_Tz cX8_readNode p l e (sw_R 2 0 0 47) s m args below meth c Q 5 A D cT 0 0 σ' r) (σ : sw_S)  (ce sl : Nat) (h : b_X8_readNode_224  σ = some (r, σ')) (hce : ce + (0) ≤ 0) (hsl : sl + (0) ≤ 0) : sw_G p l e (sw_R 2 0 0 47) s m args below meth c Q 5 A D cT σ ce sl 224 [] [] := by
  unfold b_X8_readNode_224 at h
  refine g_iconst (pc := 224) (v := 0) K dX8_readNode_224 (by decide) ?_
  refine g_sub K [] rfl ?_
  exact w_X8_readNode_225 K hT  _ _ _ _ h (by omega) (by omega)
def b_X8_readNode_208 (v0 : Nat) (v4 : Int32) (t0 : Int32) (t1 : Int32) (σ : sw_S) : Option (Int32 × sw_S) :=
  (if t1 < t0 then
  b_X8_readNode_224 σ
  else
  (sw_gI 8 v0 0 σ).bind fun x2 =>
  (if x2 < v4 then
  b_X8_readNode_224 σ
  else
  b_X8_readNode_225 1 σ))
set_option maxHeartbeats 4000000 in
set_option maxRecDepth 100000 in
theorem w_X8_readNode_208 {p : Program} {l : Launch} {e : Env} {s : State} {m : MethodId} {args : Array Value} {below : List Frame} {meth : Method} {c : Code} {Q : State → Prop} {A : Nat → Prop} {D : va_G} {cT : Nat → ClassId} {r : Int32}  {σ' : sw_S}  (K : sw_C p s m args c cX8_readNode 5 RX8 A D cT) (hT : sw_Tz cX8_readNode p l e (sw_R 2 0 0 47) s m args below meth c Q 5 A D cT 0 0 σ' r) (v0 : Nat) (v4 : Int32) (t0 : Int32) (t1 : Int32) (σ : sw_S)  (ce sl : Nat) (h : b_X8_readNode_208 v0 v4 t0 t1 σ = some (r, σ')) (hce : ce + (0) ≤ 0) (hsl : sl + (0) ≤ 0) : sw_G p l e (sw_R 2 0 0 47) s m args below meth c Q 5 A D cT σ ce sl 208 [(0, P_ (some v0)), (4, I_ v4)] [I_ t0, I_ t1] := by
  unfold b_X8_readNode_208 at h
  refine g_icmp_lt (pc := 208) K 224 dX8_readNode_208 (by decide) (fun c1 => ?_) (fun c1 => ?_)
  · replace h := (if_pos c1).symm.trans h
    refine g_sub K [] rfl ?_
    exact w_X8_readNode_224 K hT   _ _ _ h (by omega) (by omega)
  · replace h := (if_neg c1).symm.trans h
    refine g_iload (pc := 211) K 1 rfl dX8_readNode_211 ?_
    refine g_aload_n (pc := 213) K 0 rfl rfl dX8_readNode_213 ?_
    replace h := Option.bind_eq_some_iff.mp h
    obtain ⟨x2, e3, h⟩ := h
    refine g_getI (pc := 214) K cl_8 hin_X8 (k := 0) (by decide) tb_518 rfl e3 dX8_readNode_214 ?_
    refine g_icmp_gt (pc := 217) K 224 dX8_readNode_217 (by decide) (fun c4 => ?_) (fun c4 => ?_)
    · replace h := (if_pos c4).symm.trans h
      refine g_sub K [] rfl ?_
      exact w_X8_readNode_224 K hT   _ _ _ h (by omega) (by omega)
    · replace h := (if_neg c4).symm.trans h
      refine g_iconst (pc := 220) (v := 1) K dX8_readNode_220 (by decide) ?_
      refine g_goto (pc := 221) (tgt := 225) K dX8_readNode_221 (by decide) ?_
      refine g_sub K [] rfl ?_
      exact w_X8_readNode_225 K hT  _ _ _ _ h (by omega) (by omega)
def b_X8_readNode_147 (σ : sw_S) : Option (Int32 × sw_S) :=
  some (0, σ)
set_option maxHeartbeats 4000000 in
set_option maxRecDepth 100000 in
theorem w_X8_readNode_147 {p : Program} {l : Launch} {e : Env} {s : State} {m : MethodId} {args : Array Value} {below : List Frame} {meth : Method} {c : Code} {Q : State → Prop} {A : Nat → Prop} {D : va_G} {cT : Nat → ClassId} {r : Int32}  {σ' : sw_S}  (K : sw_C p s m args c cX8_readNode 5 RX8 A D cT) (hT : sw_Tz cX8_readNode p l e (sw_R 2 0 0 47) s m args below meth c Q 5 A D cT 0 0 σ' r) (σ : sw_S)  (ce sl : Nat) (h : b_X8_readNode_147  σ = some (r, σ')) (hce : ce + (0) ≤ 0) (hsl : sl + (0) ≤ 0) : sw_G p l e (sw_R 2 0 0 47) s m args below meth c Q 5 A D cT σ ce sl 147 [] [] := by
  unfold b_X8_readNode_147 at h
  refine g_iconst (pc := 147) (v := 0) K dX8_readNode_147 (by decide) ?_
  cases h
  exact hT _ _ 148 _ (by omega) (by omega) rfl dX8_readNode_148
def b_X8_readNode_139 (v0 : Nat) (v2 : Int32) (v3 : Int32) (σ : sw_S) : Option (Int32 × sw_S) :=
  (sw_ob 8 v0 σ).bind fun f1 =>
  (f_X8_there v0 1 σ).bind fun x4 =>
  (if x4 = 0 then
  b_X8_readNode_147 σ
  else
  (sw_gR 8 v0 11 σ).bind fun r6 =>
  (sw_gI 8 v0 26 σ).bind fun x8 =>
  r6.bind fun a10 =>
  (sw_al 0 a10 x8 σ).bind fun x12 =>
  (sw_gI 8 v0 26 σ).bind fun x13 =>
  (sw_pt 8 v0 26 (.int ((x13 + 1))) σ).bind fun σ15 =>
  (sw_gR 8 v0 17 σ15).bind fun r17 =>
  r17.bind fun a19 =>
  (sw_al 0 a19 v3 σ15).bind fun x21 =>
  (if x21 = 1 then
  (sw_ob 8 v0 σ15).bind fun f23 =>
  sw_b2 (f_X8_readLeaf v0 v3 x12 v2 σ15) fun x26 σ27 =>
  (sw_z x26).bind fun z28 =>
  some (z28, σ27)
  else
  (sw_gR 8 v0 19 σ15).bind fun r31 =>
  r31.bind fun a33 =>
  (sw_as 0 a33 v3 x12 σ15).bind fun σ35 =>
  (if v2 = 0 then
  b_X8_readNode_208 v0 x12 1 x12 σ35
  else
  b_X8_readNode_208 v0 x12 2 x12 σ35)))
set_option maxHeartbeats 4000000 in
set_option maxRecDepth 100000 in
theorem w_X8_readNode_139 {p : Program} {l : Launch} {e : Env} {s : State} {m : MethodId} {args : Array Value} {below : List Frame} {meth : Method} {c : Code} {Q : State → Prop} {A : Nat → Prop} {D : va_G} {cT : Nat → ClassId} {r : Int32}  {σ' : sw_S}  (K : sw_C p s m args c cX8_readNode 5 RX8 A D cT) (hT : sw_Tz cX8_readNode p l e (sw_R 2 0 0 47) s m args below meth c Q 5 A D cT 0 0 σ' r) (v0 : Nat) (v2 : Int32) (v3 : Int32) (σ : sw_S)  (ce sl : Nat) (h : b_X8_readNode_139 v0 v2 v3 σ = some (r, σ')) (hce : ce + (0) ≤ 0) (hsl : sl + (0) ≤ 0) : sw_G p l e (sw_R 2 0 0 47) s m args below meth c Q 5 A D cT σ ce sl 139 [(0, P_ (some v0)), (2, I_ v2), (3, I_ v3)] [] := by
  unfold b_X8_readNode_139 at h
  refine g_aload_n (pc := 139) K 0 rfl rfl dX8_readNode_139 ?_
  refine g_iconst (pc := 140) (v := 1) K dX8_readNode_140 (by decide) ?_
  replace h := Option.bind_eq_some_iff.mp h
  obtain ⟨f1, e2, h⟩ := h
  replace h := Option.bind_eq_some_iff.mp h
  obtain ⟨x4, e3, h⟩ := h
  refine g_callV (pc := 141) (st := []) K [I_ 1] (c_X8_there _ _ _ _ _ _ e3) e2 cl_8 rfl tb_732 tb_729 tb_7 tb_731 sl_42 hd_X8_there ⟨Nat.le_of_ble_eq_true rfl, Nat.le_of_ble_eq_true rfl⟩ rfl (sw_rm (Nat.le_of_ble_eq_true rfl)) ⟨by show _ ≤ 0; omega, by show _ ≤ 0; omega⟩ dX8_readNode_141 ?_
  refine g_if_ne (pc := 144) K 149 dX8_readNode_144 (by decide) (fun c5 => ?_) (fun c5 => ?_)
  · replace h := (if_pos c5).symm.trans h
    refine g_sub K [] rfl ?_
    exact w_X8_readNode_147 K hT   _ _ _ h (by omega) (by omega)
  · replace h := (if_neg c5).symm.trans h
    refine g_aload_n (pc := 149) K 0 rfl rfl dX8_readNode_149 ?_
    replace h := Option.bind_eq_some_iff.mp h
    obtain ⟨r6, e7, h⟩ := h
    refine g_getR (pc := 150) K cl_8 hin_X8 (k := 11) (by decide) tb_529 rfl e7 dX8_readNode_150 ?_
    refine g_aload_n (pc := 153) K 0 rfl rfl dX8_readNode_153 ?_
    replace h := Option.bind_eq_some_iff.mp h
    obtain ⟨x8, e9, h⟩ := h
    refine g_getI (pc := 154) K cl_8 hin_X8 (k := 26) (by decide) tb_544 rfl e9 dX8_readNode_154 ?_
    replace h := Option.bind_eq_some_iff.mp h
    obtain ⟨a10, rfl, h⟩ := h
    replace h := Option.bind_eq_some_iff.mp h
    obtain ⟨x12, e11, h⟩ := h
    refine g_iald (pc := 157) K e11 dX8_readNode_157 ?_
    refine g_istore (pc := 158) K [(4, I_ x12), (0, P_ (some v0)), (2, I_ v2), (3, I_ v3)] (by decide) rfl dX8_readNode_158 ?_
    refine g_aload_n (pc := 160) K 1 rfl rfl dX8_readNode_160 ?_
    refine g_dup (pc := 161) K rfl dX8_readNode_161 ?_
    replace h := Option.bind_eq_some_iff.mp h
    obtain ⟨x13, e14, h⟩ := h
    refine g_getI (pc := 162) K cl_8 hin_X8 (k := 26) (by decide) tb_544 rfl e14 dX8_readNode_162 ?_
    refine g_iconst (pc := 165) (v := 1) K dX8_readNode_165 (by decide) ?_
    refine g_iadd (pc := 166) K dX8_readNode_166 ?_
    replace h := Option.bind_eq_some_iff.mp h
    obtain ⟨σ15, e16, h⟩ := h
    refine g_put (pc := 167) K cl_8 hin_X8 (k := 26) (by decide) tb_544 rfl tyX8 tyX8_ok nmX8 (Or.inl rfl) rfl rfl e16 dX8_readNode_167 ?_
    refine g_aload_n (pc := 170) K 1 rfl rfl dX8_readNode_170 ?_
    replace h := Option.bind_eq_some_iff.mp h
    obtain ⟨r17, e18, h⟩ := h
    refine g_getR (pc := 171) K cl_8 hin_X8 (k := 17) (by decide) tb_535 rfl e18 dX8_readNode_171 ?_
    refine g_iload_n (pc := 174) K 3 rfl rfl dX8_readNode_174 ?_
    replace h := Option.bind_eq_some_iff.mp h
    obtain ⟨a19, rfl, h⟩ := h
    replace h := Option.bind_eq_some_iff.mp h
    obtain ⟨x21, e20, h⟩ := h
    refine g_iald (pc := 175) K e20 dX8_readNode_175 ?_
    refine g_iconst (pc := 176) (v := 1) K dX8_readNode_176 (by decide) ?_
    refine g_icmp_ne (pc := 177) K 189 dX8_readNode_177 (by decide) (fun c22 => ?_) (fun c22 => ?_)
    · replace h := (if_pos c22).symm.trans h
      refine g_aload_n (pc := 180) K 1 rfl rfl dX8_readNode_180 ?_
      refine g_iload_n (pc := 181) K 3 rfl rfl dX8_readNode_181 ?_
      refine g_iload (pc := 182) K 0 rfl dX8_readNode_182 ?_
      refine g_iload_n (pc := 184) K 2 rfl rfl dX8_readNode_184 ?_
      replace h := Option.bind_eq_some_iff.mp h
      obtain ⟨f23, e24, h⟩ := h
      replace h := sw_b2_eq h
      obtain ⟨x26, σ27, e25, h⟩ := h
      refine g_callV (pc := 185) (st := []) K [I_ v3, I_ x12, I_ v2] (c_X8_readLeaf _ _ _ _ _ _ _ _ e25) e24 cl_8 rfl tb_748 tb_745 tb_7 tb_747 sl_46 hd_X8_readLeaf ⟨Nat.le_of_ble_eq_true rfl, Nat.le_of_ble_eq_true rfl⟩ rfl (sw_rm (Nat.le_of_ble_eq_true rfl)) ⟨by show _ ≤ 0; omega, by show _ ≤ 0; omega⟩ dX8_readNode_185 ?_
      replace h := Option.bind_eq_some_iff.mp h
      obtain ⟨z28, e29, h⟩ := h
      obtain ⟨rfl, e30⟩ := sw_z_eq e29
      cases h
      exact hT _ _ 188 _ (by omega) (by omega) e30.1 dX8_readNode_188
    · replace h := (if_neg c22).symm.trans h
      refine g_aload_n (pc := 189) K 1 rfl rfl dX8_readNode_189 ?_
      replace h := Option.bind_eq_some_iff.mp h
      obtain ⟨r31, e32, h⟩ := h
      refine g_getR (pc := 190) K cl_8 hin_X8 (k := 19) (by decide) tb_537 rfl e32 dX8_readNode_190 ?_
      refine g_iload_n (pc := 193) K 3 rfl rfl dX8_readNode_193 ?_
      refine g_iload (pc := 194) K 0 rfl dX8_readNode_194 ?_
      replace h := Option.bind_eq_some_iff.mp h
      obtain ⟨a33, rfl, h⟩ := h
      replace h := Option.bind_eq_some_iff.mp h
      obtain ⟨σ35, e34, h⟩ := h
      refine g_iast (pc := 196) K e34 dX8_readNode_196 ?_
      refine g_iload (pc := 197) K 0 rfl dX8_readNode_197 ?_
      refine g_iload_n (pc := 199) K 2 rfl rfl dX8_readNode_199 ?_
      refine g_if_eq (pc := 200) K 207 dX8_readNode_200 (by decide) (fun c36 => ?_) (fun c36 => ?_)
      · replace h := (if_pos c36).symm.trans h
        refine g_iconst (pc := 207) (v := 1) K dX8_readNode_207 (by decide) ?_
        refine g_sub K [1, 0] rfl ?_
        exact w_X8_readNode_208 K hT  _ _ _ _ _ _ _ h (by omega) (by omega)
      · replace h := (if_neg c36).symm.trans h
        refine g_iconst (pc := 203) (v := 2) K dX8_readNode_203 (by decide) ?_
        refine g_goto (pc := 204) (tgt := 208) K dX8_readNode_204 (by decide) ?_
        refine g_sub K [1, 0] rfl ?_
        exact w_X8_readNode_208 K hT  _ _ _ _ _ _ _ h (by omega) (by omega)
def b_X8_readNode_118 (t0 : Int32) (σ : sw_S) : Option (Int32 × sw_S) :=
  (sw_z t0).bind fun z1 =>
  some (z1, σ)
set_option maxHeartbeats 4000000 in
set_option maxRecDepth 100000 in
theorem w_X8_readNode_118 {p : Program} {l : Launch} {e : Env} {s : State} {m : MethodId} {args : Array Value} {below : List Frame} {meth : Method} {c : Code} {Q : State → Prop} {A : Nat → Prop} {D : va_G} {cT : Nat → ClassId} {r : Int32}  {σ' : sw_S}  (K : sw_C p s m args c cX8_readNode 5 RX8 A D cT) (hT : sw_Tz cX8_readNode p l e (sw_R 2 0 0 47) s m args below meth c Q 5 A D cT 0 0 σ' r) (t0 : Int32) (σ : sw_S)  (ce sl : Nat) (h : b_X8_readNode_118 t0 σ = some (r, σ')) (hce : ce + (0) ≤ 0) (hsl : sl + (0) ≤ 0) : sw_G p l e (sw_R 2 0 0 47) s m args below meth c Q 5 A D cT σ ce sl 118 [] [I_ t0] := by
  unfold b_X8_readNode_118 at h
  replace h := Option.bind_eq_some_iff.mp h
  obtain ⟨z1, e2, h⟩ := h
  obtain ⟨rfl, e3⟩ := sw_z_eq e2
  cases h
  exact hT _ _ 118 _ (by omega) (by omega) e3.1 dX8_readNode_118
def b_X8_readNode_117 (σ : sw_S) : Option (Int32 × sw_S) :=
  b_X8_readNode_118 0 σ
set_option maxHeartbeats 4000000 in
set_option maxRecDepth 100000 in
theorem w_X8_readNode_117 {p : Program} {l : Launch} {e : Env} {s : State} {m : MethodId} {args : Array Value} {below : List Frame} {meth : Method} {c : Code} {Q : State → Prop} {A : Nat → Prop} {D : va_G} {cT : Nat → ClassId} {r : Int32}  {σ' : sw_S}  (K : sw_C p s m args c cX8_readNode 5 RX8 A D cT) (hT : sw_Tz cX8_readNode p l e (sw_R 2 0 0 47) s m args below meth c Q 5 A D cT 0 0 σ' r) (σ : sw_S)  (ce sl : Nat) (h : b_X8_readNode_117  σ = some (r, σ')) (hce : ce + (0) ≤ 0) (hsl : sl + (0) ≤ 0) : sw_G p l e (sw_R 2 0 0 47) s m args below meth c Q 5 A D cT σ ce sl 117 [] [] := by
  unfold b_X8_readNode_117 at h
  refine g_iconst (pc := 117) (v := 0) K dX8_readNode_117 (by decide) ?_
  refine g_sub K [] rfl ?_
  exact w_X8_readNode_118 K hT  _ _ _ _ h (by omega) (by omega)
def b_X8_readNode_31 (σ : sw_S) : Option (Int32 × sw_S) :=
  some (0, σ)
set_option maxHeartbeats 4000000 in
set_option maxRecDepth 100000 in
theorem w_X8_readNode_31 {p : Program} {l : Launch} {e : Env} {s : State} {m : MethodId} {args : Array Value} {below : List Frame} {meth : Method} {c : Code} {Q : State → Prop} {A : Nat → Prop} {D : va_G} {cT : Nat → ClassId} {r : Int32}  {σ' : sw_S}  (K : sw_C p s m args c cX8_readNode 5 RX8 A D cT) (hT : sw_Tz cX8_readNode p l e (sw_R 2 0 0 47) s m args below meth c Q 5 A D cT 0 0 σ' r) (σ : sw_S)  (ce sl : Nat) (h : b_X8_readNode_31  σ = some (r, σ')) (hce : ce + (0) ≤ 0) (hsl : sl + (0) ≤ 0) : sw_G p l e (sw_R 2 0 0 47) s m args below meth c Q 5 A D cT σ ce sl 31 [] [] := by
  unfold b_X8_readNode_31 at h
  refine g_iconst (pc := 31) (v := 0) K dX8_readNode_31 (by decide) ?_
  cases h
  exact hT _ _ 32 _ (by omega) (by omega) rfl dX8_readNode_32
def b_X8_readNode_12 (v0 : Nat) (v1 : Int32) (t0 : Int32) (σ : sw_S) : Option (Int32 × sw_S) :=
  (sw_gI 8 v0 16 σ).bind fun x1 =>
  (if x1 = 300 then
  b_X8_readNode_31 σ
  else
  (sw_ob 8 v0 σ).bind fun f4 =>
  (f_X8_there v0 1 σ).bind fun x7 =>
  (if x7 = 0 then
  b_X8_readNode_31 σ
  else
  (sw_gI 8 v0 16 σ).bind fun x9 =>
  (sw_gR 8 v0 17 σ).bind fun r11 =>
  (sw_gR 8 v0 11 σ).bind fun r13 =>
  (sw_gI 8 v0 26 σ).bind fun x15 =>
  r13.bind fun a17 =>
  (sw_al 0 a17 x15 σ).bind fun x19 =>
  r11.bind fun a20 =>
  (sw_as 0 a20 x9 x19 σ).bind fun σ22 =>
  (sw_gR 8 v0 18 σ22).bind fun r23 =>
  r23.bind fun a25 =>
  (sw_as 0 a25 x9 v1 σ22).bind fun σ27 =>
  (sw_gI 8 v0 26 σ27).bind fun x28 =>
  (sw_pt 8 v0 26 (.int ((x28 + 1))) σ27).bind fun σ30 =>
  (sw_gI 8 v0 16 σ30).bind fun x32 =>
  (sw_pt 8 v0 16 (.int ((x32 + 1))) σ30).bind fun σ34 =>
  (sw_ob 8 v0 σ34).bind fun f36 =>
  (f_X8_depth v0 x9 σ34).bind fun x39 =>
  (if x39 ≤ 6 then
  (sw_gR 8 v0 17 σ34).bind fun r41 =>
  r41.bind fun a43 =>
  (sw_al 0 a43 x9 σ34).bind fun x45 =>
  (if x45 = 0 then
  (if t0 = 0 then
  (sw_ob 8 v0 σ34).bind fun f48 =>
  sw_b2 (f_X8_readLeft v0 x9 σ34) fun x51 σ52 =>
  (if x51 = 0 then
  b_X8_readNode_117 σ52
  else
  b_X8_readNode_118 1 σ52)
  else
  b_X8_readNode_117 σ34)
  else
  (sw_gR 8 v0 17 σ34).bind fun r54 =>
  r54.bind fun a56 =>
  (sw_al 0 a56 x9 σ34).bind fun x58 =>
  (if x58 = 1 then
  b_X8_readNode_139 v0 t0 x9 σ34
  else
  (sw_gR 8 v0 17 σ34).bind fun r60 =>
  r60.bind fun a62 =>
  (sw_al 0 a62 x9 σ34).bind fun x64 =>
  (if x64 = 2 then
  b_X8_readNode_139 v0 t0 x9 σ34
  else
  b_X8_readNode_147 σ34)))
  else
  some (0, σ34))))
set_option maxHeartbeats 4000000 in
set_option maxRecDepth 100000 in
theorem w_X8_readNode_12 {p : Program} {l : Launch} {e : Env} {s : State} {m : MethodId} {args : Array Value} {below : List Frame} {meth : Method} {c : Code} {Q : State → Prop} {A : Nat → Prop} {D : va_G} {cT : Nat → ClassId} {r : Int32}  {σ' : sw_S}  (K : sw_C p s m args c cX8_readNode 5 RX8 A D cT) (hT : sw_Tz cX8_readNode p l e (sw_R 2 0 0 47) s m args below meth c Q 5 A D cT 0 0 σ' r) (v0 : Nat) (v1 : Int32) (t0 : Int32) (σ : sw_S)  (ce sl : Nat) (h : b_X8_readNode_12 v0 v1 t0 σ = some (r, σ')) (hce : ce + (0) ≤ 0) (hsl : sl + (0) ≤ 0) : sw_G p l e (sw_R 2 0 0 47) s m args below meth c Q 5 A D cT σ ce sl 12 [(0, P_ (some v0)), (1, I_ v1)] [I_ t0] := by
  unfold b_X8_readNode_12 at h
  refine g_istore_n (pc := 12) K [(2, I_ t0), (0, P_ (some v0)), (1, I_ v1)] rfl (by decide) rfl dX8_readNode_12 ?_
  refine g_aload_n (pc := 13) K 1 rfl rfl dX8_readNode_13 ?_
  replace h := Option.bind_eq_some_iff.mp h
  obtain ⟨x1, e2, h⟩ := h
  refine g_getI (pc := 14) K cl_8 hin_X8 (k := 16) (by decide) tb_534 rfl e2 dX8_readNode_14 ?_
  refine g_sipush (pc := 17) (v := 300) K dX8_readNode_17 (by decide) ?_
  refine g_icmp_eq (pc := 20) K 31 dX8_readNode_20 (by decide) (fun c3 => ?_) (fun c3 => ?_)
  · replace h := (if_pos c3).symm.trans h
    refine g_sub K [] rfl ?_
    exact w_X8_readNode_31 K hT   _ _ _ h (by omega) (by omega)
  · replace h := (if_neg c3).symm.trans h
    refine g_aload_n (pc := 23) K 1 rfl rfl dX8_readNode_23 ?_
    refine g_iconst (pc := 24) (v := 1) K dX8_readNode_24 (by decide) ?_
    replace h := Option.bind_eq_some_iff.mp h
    obtain ⟨f4, e5, h⟩ := h
    replace h := Option.bind_eq_some_iff.mp h
    obtain ⟨x7, e6, h⟩ := h
    refine g_callV (pc := 25) (st := []) K [I_ 1] (c_X8_there _ _ _ _ _ _ e6) e5 cl_8 rfl tb_732 tb_729 tb_7 tb_731 sl_42 hd_X8_there ⟨Nat.le_of_ble_eq_true rfl, Nat.le_of_ble_eq_true rfl⟩ rfl (sw_rm (Nat.le_of_ble_eq_true rfl)) ⟨by show _ ≤ 0; omega, by show _ ≤ 0; omega⟩ dX8_readNode_25 ?_
    refine g_if_ne (pc := 28) K 33 dX8_readNode_28 (by decide) (fun c8 => ?_) (fun c8 => ?_)
    · replace h := (if_pos c8).symm.trans h
      refine g_sub K [] rfl ?_
      exact w_X8_readNode_31 K hT   _ _ _ h (by omega) (by omega)
    · replace h := (if_neg c8).symm.trans h
      refine g_aload_n (pc := 33) K 1 rfl rfl dX8_readNode_33 ?_
      replace h := Option.bind_eq_some_iff.mp h
      obtain ⟨x9, e10, h⟩ := h
      refine g_getI (pc := 34) K cl_8 hin_X8 (k := 16) (by decide) tb_534 rfl e10 dX8_readNode_34 ?_
      refine g_istore_n (pc := 37) K [(3, I_ x9), (2, I_ t0), (0, P_ (some v0)), (1, I_ v1)] rfl (by decide) rfl dX8_readNode_37 ?_
      refine g_aload_n (pc := 38) K 2 rfl rfl dX8_readNode_38 ?_
      replace h := Option.bind_eq_some_iff.mp h
      obtain ⟨r11, e12, h⟩ := h
      refine g_getR (pc := 39) K cl_8 hin_X8 (k := 17) (by decide) tb_535 rfl e12 dX8_readNode_39 ?_
      refine g_iload_n (pc := 42) K 0 rfl rfl dX8_readNode_42 ?_
      refine g_aload_n (pc := 43) K 2 rfl rfl dX8_readNode_43 ?_
      replace h := Option.bind_eq_some_iff.mp h
      obtain ⟨r13, e14, h⟩ := h
      refine g_getR (pc := 44) K cl_8 hin_X8 (k := 11) (by decide) tb_529 rfl e14 dX8_readNode_44 ?_
      refine g_aload_n (pc := 47) K 2 rfl rfl dX8_readNode_47 ?_
      replace h := Option.bind_eq_some_iff.mp h
      obtain ⟨x15, e16, h⟩ := h
      refine g_getI (pc := 48) K cl_8 hin_X8 (k := 26) (by decide) tb_544 rfl e16 dX8_readNode_48 ?_
      replace h := Option.bind_eq_some_iff.mp h
      obtain ⟨a17, rfl, h⟩ := h
      replace h := Option.bind_eq_some_iff.mp h
      obtain ⟨x19, e18, h⟩ := h
      refine g_iald (pc := 51) K e18 dX8_readNode_51 ?_
      replace h := Option.bind_eq_some_iff.mp h
      obtain ⟨a20, rfl, h⟩ := h
      replace h := Option.bind_eq_some_iff.mp h
      obtain ⟨σ22, e21, h⟩ := h
      refine g_iast (pc := 52) K e21 dX8_readNode_52 ?_
      refine g_aload_n (pc := 53) K 2 rfl rfl dX8_readNode_53 ?_
      replace h := Option.bind_eq_some_iff.mp h
      obtain ⟨r23, e24, h⟩ := h
      refine g_getR (pc := 54) K cl_8 hin_X8 (k := 18) (by decide) tb_536 rfl e24 dX8_readNode_54 ?_
      refine g_iload_n (pc := 57) K 0 rfl rfl dX8_readNode_57 ?_
      refine g_iload_n (pc := 58) K 3 rfl rfl dX8_readNode_58 ?_
      replace h := Option.bind_eq_some_iff.mp h
      obtain ⟨a25, rfl, h⟩ := h
      replace h := Option.bind_eq_some_iff.mp h
      obtain ⟨σ27, e26, h⟩ := h
      refine g_iast (pc := 59) K e26 dX8_readNode_59 ?_
      refine g_aload_n (pc := 60) K 2 rfl rfl dX8_readNode_60 ?_
      refine g_dup (pc := 61) K rfl dX8_readNode_61 ?_
      replace h := Option.bind_eq_some_iff.mp h
      obtain ⟨x28, e29, h⟩ := h
      refine g_getI (pc := 62) K cl_8 hin_X8 (k := 26) (by decide) tb_544 rfl e29 dX8_readNode_62 ?_
      refine g_iconst (pc := 65) (v := 1) K dX8_readNode_65 (by decide) ?_
      refine g_iadd (pc := 66) K dX8_readNode_66 ?_
      replace h := Option.bind_eq_some_iff.mp h
      obtain ⟨σ30, e31, h⟩ := h
      refine g_put (pc := 67) K cl_8 hin_X8 (k := 26) (by decide) tb_544 rfl tyX8 tyX8_ok nmX8 (Or.inl rfl) rfl rfl e31 dX8_readNode_67 ?_
      refine g_aload_n (pc := 70) K 2 rfl rfl dX8_readNode_70 ?_
      refine g_dup (pc := 71) K rfl dX8_readNode_71 ?_
      replace h := Option.bind_eq_some_iff.mp h
      obtain ⟨x32, e33, h⟩ := h
      refine g_getI (pc := 72) K cl_8 hin_X8 (k := 16) (by decide) tb_534 rfl e33 dX8_readNode_72 ?_
      refine g_iconst (pc := 75) (v := 1) K dX8_readNode_75 (by decide) ?_
      refine g_iadd (pc := 76) K dX8_readNode_76 ?_
      replace h := Option.bind_eq_some_iff.mp h
      obtain ⟨σ34, e35, h⟩ := h
      refine g_put (pc := 77) K cl_8 hin_X8 (k := 16) (by decide) tb_534 rfl tyX8 tyX8_ok nmX8 (Or.inl rfl) rfl rfl e35 dX8_readNode_77 ?_
      refine g_aload_n (pc := 80) K 2 rfl rfl dX8_readNode_80 ?_
      refine g_iload_n (pc := 81) K 0 rfl rfl dX8_readNode_81 ?_
      replace h := Option.bind_eq_some_iff.mp h
      obtain ⟨f36, e37, h⟩ := h
      replace h := Option.bind_eq_some_iff.mp h
      obtain ⟨x39, e38, h⟩ := h
      refine g_callV (pc := 82) (st := []) K [I_ x9] (c_X8_depth _ _ _ _ _ _ e38) e37 cl_8 rfl tb_736 tb_733 tb_7 tb_735 sl_43 hd_X8_depth ⟨Nat.le_of_ble_eq_true rfl, Nat.le_of_ble_eq_true rfl⟩ rfl (sw_rm (Nat.le_of_ble_eq_true rfl)) ⟨by show _ ≤ 0; omega, by show _ ≤ 0; omega⟩ dX8_readNode_82 ?_
      refine g_bipush (pc := 85) (v := 6) K dX8_readNode_85 (by decide) ?_
      refine g_icmp_le (pc := 87) K 92 dX8_readNode_87 (by decide) (fun c40 => ?_) (fun c40 => ?_)
      · replace h := (if_pos c40).symm.trans h
        refine g_aload_n (pc := 92) K 2 rfl rfl dX8_readNode_92 ?_
        replace h := Option.bind_eq_some_iff.mp h
        obtain ⟨r41, e42, h⟩ := h
        refine g_getR (pc := 93) K cl_8 hin_X8 (k := 17) (by decide) tb_535 rfl e42 dX8_readNode_93 ?_
        refine g_iload_n (pc := 96) K 0 rfl rfl dX8_readNode_96 ?_
        replace h := Option.bind_eq_some_iff.mp h
        obtain ⟨a43, rfl, h⟩ := h
        replace h := Option.bind_eq_some_iff.mp h
        obtain ⟨x45, e44, h⟩ := h
        refine g_iald (pc := 97) K e44 dX8_readNode_97 ?_
        refine g_if_ne (pc := 98) K 119 dX8_readNode_98 (by decide) (fun c46 => ?_) (fun c46 => ?_)
        · replace h := (if_pos c46).symm.trans h
          refine g_iload_n (pc := 101) K 1 rfl rfl dX8_readNode_101 ?_
          refine g_if_ne (pc := 102) K 117 dX8_readNode_102 (by decide) (fun c47 => ?_) (fun c47 => ?_)
          · replace h := (if_pos c47).symm.trans h
            refine g_aload_n (pc := 105) K 2 rfl rfl dX8_readNode_105 ?_
            refine g_iload_n (pc := 106) K 0 rfl rfl dX8_readNode_106 ?_
            replace h := Option.bind_eq_some_iff.mp h
            obtain ⟨f48, e49, h⟩ := h
            replace h := sw_b2_eq h
            obtain ⟨x51, σ52, e50, h⟩ := h
            refine g_callV (pc := 107) (st := []) K [I_ x9] (c_X8_readLeft _ _ _ _ _ _ e50) e49 cl_8 rfl tb_740 tb_737 tb_7 tb_739 sl_44 hd_X8_readLeft ⟨Nat.le_of_ble_eq_true rfl, Nat.le_of_ble_eq_true rfl⟩ rfl (sw_rm (Nat.le_of_ble_eq_true rfl)) ⟨by show _ ≤ 0; omega, by show _ ≤ 0; omega⟩ dX8_readNode_107 ?_
            refine g_if_eq (pc := 110) K 117 dX8_readNode_110 (by decide) (fun c53 => ?_) (fun c53 => ?_)
            · replace h := (if_pos c53).symm.trans h
              refine g_sub K [] rfl ?_
              exact w_X8_readNode_117 K hT   _ _ _ h (by omega) (by omega)
            · replace h := (if_neg c53).symm.trans h
              refine g_iconst (pc := 113) (v := 1) K dX8_readNode_113 (by decide) ?_
              refine g_goto (pc := 114) (tgt := 118) K dX8_readNode_114 (by decide) ?_
              refine g_sub K [] rfl ?_
              exact w_X8_readNode_118 K hT  _ _ _ _ h (by omega) (by omega)
          · replace h := (if_neg c47).symm.trans h
            refine g_sub K [] rfl ?_
            exact w_X8_readNode_117 K hT   _ _ _ h (by omega) (by omega)
        · replace h := (if_neg c46).symm.trans h
          refine g_aload_n (pc := 119) K 2 rfl rfl dX8_readNode_119 ?_
          replace h := Option.bind_eq_some_iff.mp h
          obtain ⟨r54, e55, h⟩ := h
          refine g_getR (pc := 120) K cl_8 hin_X8 (k := 17) (by decide) tb_535 rfl e55 dX8_readNode_120 ?_
          refine g_iload_n (pc := 123) K 0 rfl rfl dX8_readNode_123 ?_
          replace h := Option.bind_eq_some_iff.mp h
          obtain ⟨a56, rfl, h⟩ := h
          replace h := Option.bind_eq_some_iff.mp h
          obtain ⟨x58, e57, h⟩ := h
          refine g_iald (pc := 124) K e57 dX8_readNode_124 ?_
          refine g_iconst (pc := 125) (v := 1) K dX8_readNode_125 (by decide) ?_
          refine g_icmp_eq (pc := 126) K 139 dX8_readNode_126 (by decide) (fun c59 => ?_) (fun c59 => ?_)
          · replace h := (if_pos c59).symm.trans h
            refine g_sub K [2, 1, 0] rfl ?_
            exact w_X8_readNode_139 K hT  _ _ _ _ _ _ h (by omega) (by omega)
          · replace h := (if_neg c59).symm.trans h
            refine g_aload_n (pc := 129) K 2 rfl rfl dX8_readNode_129 ?_
            replace h := Option.bind_eq_some_iff.mp h
            obtain ⟨r60, e61, h⟩ := h
            refine g_getR (pc := 130) K cl_8 hin_X8 (k := 17) (by decide) tb_535 rfl e61 dX8_readNode_130 ?_
            refine g_iload_n (pc := 133) K 0 rfl rfl dX8_readNode_133 ?_
            replace h := Option.bind_eq_some_iff.mp h
            obtain ⟨a62, rfl, h⟩ := h
            replace h := Option.bind_eq_some_iff.mp h
            obtain ⟨x64, e63, h⟩ := h
            refine g_iald (pc := 134) K e63 dX8_readNode_134 ?_
            refine g_iconst (pc := 135) (v := 2) K dX8_readNode_135 (by decide) ?_
            refine g_icmp_ne (pc := 136) K 147 dX8_readNode_136 (by decide) (fun c65 => ?_) (fun c65 => ?_)
            · replace h := (if_pos c65).symm.trans h
              refine g_sub K [2, 1, 0] rfl ?_
              exact w_X8_readNode_139 K hT  _ _ _ _ _ _ h (by omega) (by omega)
            · replace h := (if_neg c65).symm.trans h
              refine g_sub K [] rfl ?_
              exact w_X8_readNode_147 K hT   _ _ _ h (by omega) (by omega)
      · replace h := (if_neg c40).symm.trans h
        refine g_iconst (pc := 90) (v := 0) K dX8_readNode_90 (by decide) ?_
        cases h
        exact hT _ _ 91 _ (by omega) (by omega) rfl dX8_readNode_91
def f_X8_readNode (p0 : Nat) (q1 : Int32) (σ : sw_S) : Option (Int32 × sw_S) :=
  (sw_gI 8 p0 16 σ).bind fun x1 =>
  (if x1 = 0 then
  b_X8_readNode_12 p0 q1 1 σ
  else
  b_X8_readNode_12 p0 q1 0 σ)
set_option maxHeartbeats 4000000 in
set_option maxRecDepth 100000 in
theorem c_X8_readNode  (l : Launch) (D : va_G) (cT : Nat → ClassId) (p0 : Nat) (q1 : Int32) (σ : sw_S) {r : Int32} {σ' : sw_S} (h : f_X8_readNode p0 q1 σ = some (r, σ')) : sw_M l D cT yX8_readNode cX8_readNode 5 (some .boolean) 2 47 0 0 σ [P_ (some p0), I_ q1] (some (I_ r)) σ' := by
  refine sw_met_z (by decide) (Nat.le_of_ble_eq_true rfl) (fun p e s m args below meth c A Q K hnm hT => ?_)
  have hce : 0 + 0 ≤ 0 := Nat.le_of_ble_eq_true rfl
  have hsl : 0 + 0 ≤ 0 := Nat.le_of_ble_eq_true rfl
  unfold f_X8_readNode at h
  change sw_G p l e (sw_R 2 0 0 47) s m args below meth c Q 5 A D cT σ 0 0 0 [(0, P_ (some p0)), (1, I_ q1)] []
  refine g_aload_n (pc := 0) K 0 rfl rfl dX8_readNode_0 ?_
  replace h := Option.bind_eq_some_iff.mp h
  obtain ⟨x1, e2, h⟩ := h
  refine g_getI (pc := 1) K cl_8 hin_X8 (k := 16) (by decide) tb_534 rfl e2 dX8_readNode_1 ?_
  refine g_if_ne (pc := 4) K 11 dX8_readNode_4 (by decide) (fun c3 => ?_) (fun c3 => ?_)
  · replace h := (if_pos c3).symm.trans h
    refine g_iconst (pc := 7) (v := 1) K dX8_readNode_7 (by decide) ?_
    refine g_goto (pc := 8) (tgt := 12) K dX8_readNode_8 (by decide) ?_
    refine g_sub K [0, 1] rfl ?_
    exact w_X8_readNode_12 K hT  _ _ _ _ _ _ h (by omega) (by omega)
  · replace h := (if_neg c3).symm.trans h
    refine g_iconst (pc := 11) (v := 0) K dX8_readNode_11 (by decide) ?_
    refine g_sub K [0, 1] rfl ?_
    exact w_X8_readNode_12 K hT  _ _ _ _ _ _ h (by omega) (by omega)
