def b_X0_leftOutFits_40 (rec2 : Nat → Nat → Int32 → sw_S → Option Int32) (v0 : Nat) (v1 : Nat) (v2 : Int32) (σ : sw_S) : Option Int32 :=
  rec2 v0 v1 ((v2 + 1)) σ
set_option maxHeartbeats 4000000 in
set_option maxRecDepth 100000 in
theorem w_X0_leftOutFits_40 {p : Program} {l : Launch} {e : Env} {s : State} {m : MethodId} {args : Array Value} {below : List Frame} {meth : Method} {c : Code} {Q : State → Prop} {A : Nat → Prop} {D : va_G} {cT : Nat → ClassId} {σ : sw_S}  {r : Int32}  (K : sw_C p s m args c cX0_leftOutFits 3 RX0 A D cT) (hT : sw_Tz cX0_leftOutFits p l e (sw_R 2 0 0 48) s m args below meth c Q 3 A D cT 0 0 σ r) {rec2 : Nat → Nat → Int32 → sw_S → Option Int32} (hrec2 : ∀ (v0 : Nat) (v1 : Nat) (v2 : Int32) (ce sl : Nat), rec2 v0 v1 v2 σ = some r → ce + (0) ≤ 0 → sl + (0) ≤ 0 → sw_G p l e (sw_R 2 0 0 48) s m args below meth c Q 3 A D cT σ ce sl 2 [(0, P_ (some v0)), (1, P_ (some v1)), (2, I_ v2)] []) (v0 : Nat) (v1 : Nat) (v2 : Int32) (ce sl : Nat) (h : b_X0_leftOutFits_40 rec2 v0 v1 v2 σ = some r) (hce : ce + (0) ≤ 0) (hsl : sl + (0) ≤ 0) : sw_G p l e (sw_R 2 0 0 48) s m args below meth c Q 3 A D cT σ ce sl 40 [(0, P_ (some v0)), (1, P_ (some v1)), (2, I_ v2)] [] := by
  unfold b_X0_leftOutFits_40 at h
  refine g_iinc (pc := 40) K 2 (v2 + 1) [(2, I_ ((v2 + 1))), (0, P_ (some v0)), (1, P_ (some v1))] rfl rfl (by decide) rfl dX0_leftOutFits_40 ?_
  refine g_goto (pc := 43) (tgt := 2) K dX0_leftOutFits_43 (by decide) ?_
  refine g_sub K [1, 2, 0] rfl ?_
  exact hrec2 _ _ _ _ _ h (by omega) (by omega)
def B_X0_leftOutFits_2 (rec2 : Nat → Nat → Int32 → sw_S → Option Int32) (v0 : Nat) (v1 : Nat) (v2 : Int32) (σ : sw_S) : Option Int32 :=
  (sw_gI 0 v0 8 σ).bind fun x1 =>
  (if x1 ≤ v2 then
  some 1
  else
  (sw_gR 0 v0 4 σ).bind fun r4 =>
  r4.bind fun a6 =>
  (sw_al 2 a6 v2 σ).bind fun x8 =>
  (if x8 = 0 then
  b_X0_leftOutFits_40 rec2 v0 v1 v2 σ
  else
  (sw_ob 0 v0 σ).bind fun f10 =>
  (f_X0_spanFrom v0 v2 σ).bind fun x13 =>
  (sw_ob 0 v0 σ).bind fun f14 =>
  (f_X0_spanEnd v0 ((v2 + 1)) σ).bind fun x17 =>
  (sw_ob 4 v1 σ).bind fun f18 =>
  (f_X4_leavesOut v1 x13 x17 σ).bind fun x21 =>
  (if x21 = 0 then
  some 0
  else
  b_X0_leftOutFits_40 rec2 v0 v1 v2 σ)))
set_option maxHeartbeats 4000000 in
set_option maxRecDepth 100000 in
theorem wB_X0_leftOutFits_2 {p : Program} {l : Launch} {e : Env} {s : State} {m : MethodId} {args : Array Value} {below : List Frame} {meth : Method} {c : Code} {Q : State → Prop} {A : Nat → Prop} {D : va_G} {cT : Nat → ClassId} {σ : sw_S}  {r : Int32}  (K : sw_C p s m args c cX0_leftOutFits 3 RX0 A D cT) (hT : sw_Tz cX0_leftOutFits p l e (sw_R 2 0 0 48) s m args below meth c Q 3 A D cT 0 0 σ r) {rec2 : Nat → Nat → Int32 → sw_S → Option Int32} (hrec2 : ∀ (v0 : Nat) (v1 : Nat) (v2 : Int32) (ce sl : Nat), rec2 v0 v1 v2 σ = some r → ce + (0) ≤ 0 → sl + (0) ≤ 0 → sw_G p l e (sw_R 2 0 0 48) s m args below meth c Q 3 A D cT σ ce sl 2 [(0, P_ (some v0)), (1, P_ (some v1)), (2, I_ v2)] []) (v0 : Nat) (v1 : Nat) (v2 : Int32) (ce sl : Nat) (h : B_X0_leftOutFits_2 rec2 v0 v1 v2 σ = some r) (hce : ce + (0) ≤ 0) (hsl : sl + (0) ≤ 0) : sw_G p l e (sw_R 2 0 0 48) s m args below meth c Q 3 A D cT σ ce sl 2 [(0, P_ (some v0)), (1, P_ (some v1)), (2, I_ v2)] [] := by
  unfold B_X0_leftOutFits_2 at h
  refine g_iload_n (pc := 2) K 2 rfl rfl dX0_leftOutFits_2 ?_
  refine g_aload_n (pc := 3) K 0 rfl rfl dX0_leftOutFits_3 ?_
  replace h := Option.bind_eq_some_iff.mp h
  obtain ⟨x1, e2, h⟩ := h
  refine g_getI (pc := 4) K cl_0 hin_X0 (k := 8) (by decide) tb_134 rfl e2 dX0_leftOutFits_4 ?_
  refine g_icmp_ge (pc := 7) K 46 dX0_leftOutFits_7 (by decide) (fun c3 => ?_) (fun c3 => ?_)
  · replace h := (if_pos c3).symm.trans h
    refine g_iconst (pc := 46) (v := 1) K dX0_leftOutFits_46 (by decide) ?_
    cases h
    exact hT _ _ 47 _ (by omega) (by omega) rfl dX0_leftOutFits_47
  · replace h := (if_neg c3).symm.trans h
    refine g_aload_n (pc := 10) K 0 rfl rfl dX0_leftOutFits_10 ?_
    replace h := Option.bind_eq_some_iff.mp h
    obtain ⟨r4, e5, h⟩ := h
    refine g_getR (pc := 11) K cl_0 hin_X0 (k := 4) (by decide) tb_130 rfl e5 dX0_leftOutFits_11 ?_
    refine g_iload_n (pc := 14) K 2 rfl rfl dX0_leftOutFits_14 ?_
    replace h := Option.bind_eq_some_iff.mp h
    obtain ⟨a6, rfl, h⟩ := h
    replace h := Option.bind_eq_some_iff.mp h
    obtain ⟨x8, e7, h⟩ := h
    refine g_zald (pc := 15) K e7 dX0_leftOutFits_15 ?_
    refine g_if_eq (pc := 16) K 40 dX0_leftOutFits_16 (by decide) (fun c9 => ?_) (fun c9 => ?_)
    · replace h := (if_pos c9).symm.trans h
      refine g_sub K [0, 1, 2] rfl ?_
      exact w_X0_leftOutFits_40 K hT hrec2  _ _ _ _ _ h (by omega) (by omega)
    · replace h := (if_neg c9).symm.trans h
      refine g_aload_n (pc := 19) K 1 rfl rfl dX0_leftOutFits_19 ?_
      refine g_aload_n (pc := 20) K 0 rfl rfl dX0_leftOutFits_20 ?_
      refine g_iload_n (pc := 21) K 2 rfl rfl dX0_leftOutFits_21 ?_
      replace h := Option.bind_eq_some_iff.mp h
      obtain ⟨f10, e11, h⟩ := h
      replace h := Option.bind_eq_some_iff.mp h
      obtain ⟨x13, e12, h⟩ := h
      refine g_callV (pc := 22) (st := [P_ (some v1)]) K [I_ v2] (c_X0_spanFrom _ _ _ _ _ _ e12) e11 cl_0 rfl tb_451 tb_448 tb_5 tb_450 sl_22 hd_X0_spanFrom ⟨Nat.le_of_ble_eq_true rfl, Nat.le_of_ble_eq_true rfl⟩ rfl (sw_rm (Nat.le_of_ble_eq_true rfl)) ⟨by show _ ≤ 0; omega, by show _ ≤ 0; omega⟩ dX0_leftOutFits_22 ?_
      refine g_aload_n (pc := 25) K 0 rfl rfl dX0_leftOutFits_25 ?_
      refine g_iload_n (pc := 26) K 2 rfl rfl dX0_leftOutFits_26 ?_
      refine g_iconst (pc := 27) (v := 1) K dX0_leftOutFits_27 (by decide) ?_
      refine g_iadd (pc := 28) K dX0_leftOutFits_28 ?_
      replace h := Option.bind_eq_some_iff.mp h
      obtain ⟨f14, e15, h⟩ := h
      replace h := Option.bind_eq_some_iff.mp h
      obtain ⟨x17, e16, h⟩ := h
      refine g_callV (pc := 29) (st := [J_ x13, P_ (some v1)]) K [I_ ((v2 + 1))] (c_X0_spanEnd _ _ _ _ _ _ e16) e15 cl_0 rfl tb_456 tb_453 tb_5 tb_455 sl_23 hd_X0_spanEnd ⟨Nat.le_of_ble_eq_true rfl, Nat.le_of_ble_eq_true rfl⟩ rfl (sw_rm (Nat.le_of_ble_eq_true rfl)) ⟨by show _ ≤ 0; omega, by show _ ≤ 0; omega⟩ dX0_leftOutFits_29 ?_
      replace h := Option.bind_eq_some_iff.mp h
      obtain ⟨f18, e19, h⟩ := h
      replace h := Option.bind_eq_some_iff.mp h
      obtain ⟨x21, e20, h⟩ := h
      refine g_callV (pc := 32) (st := []) K [J_ x13, J_ x17] (c_X4_leavesOut _ _ _ _ _ _ _ e20) e19 cl_4 rfl tb_364 tb_458 tb_9 tb_362 tb_363 hd_X4_leavesOut ⟨Nat.le_of_ble_eq_true rfl, Nat.le_of_ble_eq_true rfl⟩ rfl (sw_rm (Nat.le_of_ble_eq_true rfl)) ⟨by show _ ≤ 0; omega, by show _ ≤ 0; omega⟩ dX0_leftOutFits_32 ?_
      refine g_if_ne (pc := 35) K 40 dX0_leftOutFits_35 (by decide) (fun c22 => ?_) (fun c22 => ?_)
      · replace h := (if_pos c22).symm.trans h
        refine g_iconst (pc := 38) (v := 0) K dX0_leftOutFits_38 (by decide) ?_
        cases h
        exact hT _ _ 39 _ (by omega) (by omega) rfl dX0_leftOutFits_39
      · replace h := (if_neg c22).symm.trans h
        refine g_sub K [0, 1, 2] rfl ?_
        exact w_X0_leftOutFits_40 K hT hrec2  _ _ _ _ _ h (by omega) (by omega)
def b_X0_leftOutFits_2  : Nat → Nat → Nat → Int32 → sw_S → Option Int32
  | 0 => fun _ _ _ _ => none
  | n + 1 => B_X0_leftOutFits_2 (b_X0_leftOutFits_2  n)
theorem wl_X0_leftOutFits_2 {p : Program} {l : Launch} {e : Env} {s : State} {m : MethodId} {args : Array Value} {below : List Frame} {meth : Method} {c : Code} {Q : State → Prop} {A : Nat → Prop} {D : va_G} {cT : Nat → ClassId} {σ : sw_S}  {r : Int32}  (K : sw_C p s m args c cX0_leftOutFits 3 RX0 A D cT) (hT : sw_Tz cX0_leftOutFits p l e (sw_R 2 0 0 48) s m args below meth c Q 3 A D cT 0 0 σ r) : ∀ (n : Nat) (v0 : Nat) (v1 : Nat) (v2 : Int32) (ce sl : Nat), b_X0_leftOutFits_2  n v0 v1 v2 σ = some r → ce + (0) ≤ 0 → sl + (0) ≤ 0 → sw_G p l e (sw_R 2 0 0 48) s m args below meth c Q 3 A D cT σ ce sl 2 [(0, P_ (some v0)), (1, P_ (some v1)), (2, I_ v2)] [] := by
  intro n
  induction n with
  | zero =>
    intro v0 v1 v2 ce sl h
    exact absurd (show none = some r from h) (by simp)
  | succ n ih =>
    intro v0 v1 v2 ce sl h hce hsl
    exact wB_X0_leftOutFits_2 K hT (fun _ _ _ _ _ h h1 h2 => ih _ _ _ _ _ h h1 h2) _ _ _ _ _ h hce hsl
def f_X0_leftOutFits (p0 : Nat) (q1 : Nat) (σ : sw_S) : Option Int32 :=
  b_X0_leftOutFits_2 1000 p0 q1 0 σ
set_option maxHeartbeats 4000000 in
set_option maxRecDepth 100000 in
theorem c_X0_leftOutFits  (l : Launch) (D : va_G) (cT : Nat → ClassId) (p0 : Nat) (q1 : Nat) (σ : sw_S) {r : Int32} (h : f_X0_leftOutFits p0 q1 σ = some r) : sw_M l D cT yX0_leftOutFits cX0_leftOutFits 3 (some .boolean) 2 48 0 0 σ [P_ (some p0), P_ (some q1)] (some (I_ r)) σ := by
  refine sw_met_z (by decide) (Nat.le_of_ble_eq_true rfl) (fun p e s m args below meth c A Q K hnm hT => ?_)
  have hce : 0 + 0 ≤ 0 := Nat.le_of_ble_eq_true rfl
  have hsl : 0 + 0 ≤ 0 := Nat.le_of_ble_eq_true rfl
  unfold f_X0_leftOutFits at h
  change sw_G p l e (sw_R 2 0 0 48) s m args below meth c Q 3 A D cT σ 0 0 0 [(0, P_ (some p0)), (1, P_ (some q1))] []
  refine g_iconst (pc := 0) (v := 0) K dX0_leftOutFits_0 (by decide) ?_
  refine g_istore_n (pc := 1) K [(2, I_ 0), (0, P_ (some p0)), (1, P_ (some q1))] rfl (by decide) rfl dX0_leftOutFits_1 ?_
  refine g_sub K [1, 2, 0] rfl ?_
  exact wl_X0_leftOutFits_2 K hT  1000 _ _ _ _ _ h (by omega) (by omega)

def B_X0_shownFits_2 (rec2 : Nat → Nat → Int32 → sw_S → Option Int32) (v0 : Nat) (v1 : Nat) (v2 : Int32) (σ : sw_S) : Option Int32 :=
  (sw_gI 0 v0 9 σ).bind fun x1 =>
  (if x1 ≤ v2 then
  some 1
  else
  (sw_gR 0 v0 5 σ).bind fun r4 =>
  r4.bind fun a6 =>
  (sw_al 0 a6 v2 σ).bind fun x8 =>
  (sw_ob 0 v0 σ).bind fun f9 =>
  (f_X0_spanFrom v0 x8 σ).bind fun x12 =>
  (sw_gR 0 v0 6 σ).bind fun r13 =>
  r13.bind fun a15 =>
  (sw_al 0 a15 v2 σ).bind fun x17 =>
  (sw_ob 0 v0 σ).bind fun f18 =>
  (f_X0_spanEnd v0 x17 σ).bind fun x21 =>
  (sw_ob 4 v1 σ).bind fun f22 =>
  (f_X4_leavesOut v1 x12 x21 σ).bind fun x25 =>
  (if x25 = 0 then
  rec2 v0 v1 ((v2 + 1)) σ
  else
  some 0))
set_option maxHeartbeats 4000000 in
set_option maxRecDepth 100000 in
theorem wB_X0_shownFits_2 {p : Program} {l : Launch} {e : Env} {s : State} {m : MethodId} {args : Array Value} {below : List Frame} {meth : Method} {c : Code} {Q : State → Prop} {A : Nat → Prop} {D : va_G} {cT : Nat → ClassId} {σ : sw_S}  {r : Int32}  (K : sw_C p s m args c cX0_shownFits 3 RX0 A D cT) (hT : sw_Tz cX0_shownFits p l e (sw_R 2 0 0 48) s m args below meth c Q 3 A D cT 0 0 σ r) {rec2 : Nat → Nat → Int32 → sw_S → Option Int32} (hrec2 : ∀ (v0 : Nat) (v1 : Nat) (v2 : Int32) (ce sl : Nat), rec2 v0 v1 v2 σ = some r → ce + (0) ≤ 0 → sl + (0) ≤ 0 → sw_G p l e (sw_R 2 0 0 48) s m args below meth c Q 3 A D cT σ ce sl 2 [(0, P_ (some v0)), (1, P_ (some v1)), (2, I_ v2)] []) (v0 : Nat) (v1 : Nat) (v2 : Int32) (ce sl : Nat) (h : B_X0_shownFits_2 rec2 v0 v1 v2 σ = some r) (hce : ce + (0) ≤ 0) (hsl : sl + (0) ≤ 0) : sw_G p l e (sw_R 2 0 0 48) s m args below meth c Q 3 A D cT σ ce sl 2 [(0, P_ (some v0)), (1, P_ (some v1)), (2, I_ v2)] [] := by
  unfold B_X0_shownFits_2 at h
  refine g_iload_n (pc := 2) K 2 rfl rfl dX0_shownFits_2 ?_
  refine g_aload_n (pc := 3) K 0 rfl rfl dX0_shownFits_3 ?_
  replace h := Option.bind_eq_some_iff.mp h
  obtain ⟨x1, e2, h⟩ := h
  refine g_getI (pc := 4) K cl_0 hin_X0 (k := 9) (by decide) tb_135 rfl e2 dX0_shownFits_4 ?_
  refine g_icmp_ge (pc := 7) K 45 dX0_shownFits_7 (by decide) (fun c3 => ?_) (fun c3 => ?_)
  · replace h := (if_pos c3).symm.trans h
    refine g_iconst (pc := 45) (v := 1) K dX0_shownFits_45 (by decide) ?_
    cases h
    exact hT _ _ 46 _ (by omega) (by omega) rfl dX0_shownFits_46
  · replace h := (if_neg c3).symm.trans h
    refine g_aload_n (pc := 10) K 1 rfl rfl dX0_shownFits_10 ?_
    refine g_aload_n (pc := 11) K 0 rfl rfl dX0_shownFits_11 ?_
    refine g_aload_n (pc := 12) K 0 rfl rfl dX0_shownFits_12 ?_
    replace h := Option.bind_eq_some_iff.mp h
    obtain ⟨r4, e5, h⟩ := h
    refine g_getR (pc := 13) K cl_0 hin_X0 (k := 5) (by decide) tb_131 rfl e5 dX0_shownFits_13 ?_
    refine g_iload_n (pc := 16) K 2 rfl rfl dX0_shownFits_16 ?_
    replace h := Option.bind_eq_some_iff.mp h
    obtain ⟨a6, rfl, h⟩ := h
    replace h := Option.bind_eq_some_iff.mp h
    obtain ⟨x8, e7, h⟩ := h
    refine g_iald (pc := 17) K e7 dX0_shownFits_17 ?_
    replace h := Option.bind_eq_some_iff.mp h
    obtain ⟨f9, e10, h⟩ := h
    replace h := Option.bind_eq_some_iff.mp h
    obtain ⟨x12, e11, h⟩ := h
    refine g_callV (pc := 18) (st := [P_ (some v1)]) K [I_ x8] (c_X0_spanFrom _ _ _ _ _ _ e11) e10 cl_0 rfl tb_451 tb_448 tb_5 tb_450 sl_22 hd_X0_spanFrom ⟨Nat.le_of_ble_eq_true rfl, Nat.le_of_ble_eq_true rfl⟩ rfl (sw_rm (Nat.le_of_ble_eq_true rfl)) ⟨by show _ ≤ 0; omega, by show _ ≤ 0; omega⟩ dX0_shownFits_18 ?_
    refine g_aload_n (pc := 21) K 0 rfl rfl dX0_shownFits_21 ?_
    refine g_aload_n (pc := 22) K 0 rfl rfl dX0_shownFits_22 ?_
    replace h := Option.bind_eq_some_iff.mp h
    obtain ⟨r13, e14, h⟩ := h
    refine g_getR (pc := 23) K cl_0 hin_X0 (k := 6) (by decide) tb_132 rfl e14 dX0_shownFits_23 ?_
    refine g_iload_n (pc := 26) K 2 rfl rfl dX0_shownFits_26 ?_
    replace h := Option.bind_eq_some_iff.mp h
    obtain ⟨a15, rfl, h⟩ := h
    replace h := Option.bind_eq_some_iff.mp h
    obtain ⟨x17, e16, h⟩ := h
    refine g_iald (pc := 27) K e16 dX0_shownFits_27 ?_
    replace h := Option.bind_eq_some_iff.mp h
    obtain ⟨f18, e19, h⟩ := h
    replace h := Option.bind_eq_some_iff.mp h
    obtain ⟨x21, e20, h⟩ := h
    refine g_callV (pc := 28) (st := [J_ x12, P_ (some v1)]) K [I_ x17] (c_X0_spanEnd _ _ _ _ _ _ e20) e19 cl_0 rfl tb_456 tb_453 tb_5 tb_455 sl_23 hd_X0_spanEnd ⟨Nat.le_of_ble_eq_true rfl, Nat.le_of_ble_eq_true rfl⟩ rfl (sw_rm (Nat.le_of_ble_eq_true rfl)) ⟨by show _ ≤ 0; omega, by show _ ≤ 0; omega⟩ dX0_shownFits_28 ?_
    replace h := Option.bind_eq_some_iff.mp h
    obtain ⟨f22, e23, h⟩ := h
    replace h := Option.bind_eq_some_iff.mp h
    obtain ⟨x25, e24, h⟩ := h
    refine g_callV (pc := 31) (st := []) K [J_ x12, J_ x21] (c_X4_leavesOut _ _ _ _ _ _ _ e24) e23 cl_4 rfl tb_364 tb_458 tb_9 tb_362 tb_363 hd_X4_leavesOut ⟨Nat.le_of_ble_eq_true rfl, Nat.le_of_ble_eq_true rfl⟩ rfl (sw_rm (Nat.le_of_ble_eq_true rfl)) ⟨by show _ ≤ 0; omega, by show _ ≤ 0; omega⟩ dX0_shownFits_31 ?_
    refine g_if_eq (pc := 34) K 39 dX0_shownFits_34 (by decide) (fun c26 => ?_) (fun c26 => ?_)
    · replace h := (if_pos c26).symm.trans h
      refine g_iinc (pc := 39) K 2 (v2 + 1) [(2, I_ ((v2 + 1))), (0, P_ (some v0)), (1, P_ (some v1))] rfl rfl (by decide) rfl dX0_shownFits_39 ?_
      refine g_goto (pc := 42) (tgt := 2) K dX0_shownFits_42 (by decide) ?_
      refine g_sub K [1, 2, 0] rfl ?_
      exact hrec2 _ _ _ _ _ h (by omega) (by omega)
    · replace h := (if_neg c26).symm.trans h
      refine g_iconst (pc := 37) (v := 0) K dX0_shownFits_37 (by decide) ?_
      cases h
      exact hT _ _ 38 _ (by omega) (by omega) rfl dX0_shownFits_38
def b_X0_shownFits_2  : Nat → Nat → Nat → Int32 → sw_S → Option Int32
  | 0 => fun _ _ _ _ => none
  | n + 1 => B_X0_shownFits_2 (b_X0_shownFits_2  n)
theorem wl_X0_shownFits_2 {p : Program} {l : Launch} {e : Env} {s : State} {m : MethodId} {args : Array Value} {below : List Frame} {meth : Method} {c : Code} {Q : State → Prop} {A : Nat → Prop} {D : va_G} {cT : Nat → ClassId} {σ : sw_S}  {r : Int32}  (K : sw_C p s m args c cX0_shownFits 3 RX0 A D cT) (hT : sw_Tz cX0_shownFits p l e (sw_R 2 0 0 48) s m args below meth c Q 3 A D cT 0 0 σ r) : ∀ (n : Nat) (v0 : Nat) (v1 : Nat) (v2 : Int32) (ce sl : Nat), b_X0_shownFits_2  n v0 v1 v2 σ = some r → ce + (0) ≤ 0 → sl + (0) ≤ 0 → sw_G p l e (sw_R 2 0 0 48) s m args below meth c Q 3 A D cT σ ce sl 2 [(0, P_ (some v0)), (1, P_ (some v1)), (2, I_ v2)] [] := by
  intro n
  induction n with
  | zero =>
    intro v0 v1 v2 ce sl h
    exact absurd (show none = some r from h) (by simp)
  | succ n ih =>
    intro v0 v1 v2 ce sl h hce hsl
    exact wB_X0_shownFits_2 K hT (fun _ _ _ _ _ h h1 h2 => ih _ _ _ _ _ h h1 h2) _ _ _ _ _ h hce hsl
def f_X0_shownFits (p0 : Nat) (q1 : Nat) (σ : sw_S) : Option Int32 :=
  b_X0_shownFits_2 1000 p0 q1 0 σ
set_option maxHeartbeats 4000000 in
set_option maxRecDepth 100000 in
theorem c_X0_shownFits  (l : Launch) (D : va_G) (cT : Nat → ClassId) (p0 : Nat) (q1 : Nat) (σ : sw_S) {r : Int32} (h : f_X0_shownFits p0 q1 σ = some r) : sw_M l D cT yX0_shownFits cX0_shownFits 3 (some .boolean) 2 48 0 0 σ [P_ (some p0), P_ (some q1)] (some (I_ r)) σ := by
  refine sw_met_z (by decide) (Nat.le_of_ble_eq_true rfl) (fun p e s m args below meth c A Q K hnm hT => ?_)
  have hce : 0 + 0 ≤ 0 := Nat.le_of_ble_eq_true rfl
  have hsl : 0 + 0 ≤ 0 := Nat.le_of_ble_eq_true rfl
  unfold f_X0_shownFits at h
  change sw_G p l e (sw_R 2 0 0 48) s m args below meth c Q 3 A D cT σ 0 0 0 [(0, P_ (some p0)), (1, P_ (some q1))] []
  refine g_iconst (pc := 0) (v := 0) K dX0_shownFits_0 (by decide) ?_
  refine g_istore_n (pc := 1) K [(2, I_ 0), (0, P_ (some p0)), (1, P_ (some q1))] rfl (by decide) rfl dX0_shownFits_1 ?_
  refine g_sub K [1, 2, 0] rfl ?_
  exact wl_X0_shownFits_2 K hT  1000 _ _ _ _ _ h (by omega) (by omega)

def b_X0_accepts_73 (t0 : Int32) (σ : sw_S) : Option (Int32 × sw_S) :=
  (sw_z t0).bind fun z1 =>
  some (z1, σ)
set_option maxHeartbeats 4000000 in
set_option maxRecDepth 100000 in
theorem w_X0_accepts_73 {p : Program} {l : Launch} {e : Env} {s : State} {m : MethodId} {args : Array Value} {below : List Frame} {meth : Method} {c : Code} {Q : State → Prop} {A : Nat → Prop} {D : va_G} {cT : Nat → ClassId} {r : Int32}  {σ' : sw_S}  (K : sw_C p s m args c cX0_accepts 3 RX0 A D cT) (hT : sw_Tz cX0_accepts p l e (sw_R 41 0 0 912) s m args below meth c Q 3 A D cT 0 0 σ' r) (t0 : Int32) (σ : sw_S)  (ce sl : Nat) (h : b_X0_accepts_73 t0 σ = some (r, σ')) (hce : ce + (0) ≤ 0) (hsl : sl + (0) ≤ 0) : sw_G p l e (sw_R 41 0 0 912) s m args below meth c Q 3 A D cT σ ce sl 73 [] [I_ t0] := by
  unfold b_X0_accepts_73 at h
  replace h := Option.bind_eq_some_iff.mp h
  obtain ⟨z1, e2, h⟩ := h
  obtain ⟨rfl, e3⟩ := sw_z_eq e2
  cases h
  exact hT _ _ 73 _ (by omega) (by omega) e3.1 dX0_accepts_73
def b_X0_accepts_72 (σ : sw_S) : Option (Int32 × sw_S) :=
  b_X0_accepts_73 0 σ
set_option maxHeartbeats 4000000 in
set_option maxRecDepth 100000 in
theorem w_X0_accepts_72 {p : Program} {l : Launch} {e : Env} {s : State} {m : MethodId} {args : Array Value} {below : List Frame} {meth : Method} {c : Code} {Q : State → Prop} {A : Nat → Prop} {D : va_G} {cT : Nat → ClassId} {r : Int32}  {σ' : sw_S}  (K : sw_C p s m args c cX0_accepts 3 RX0 A D cT) (hT : sw_Tz cX0_accepts p l e (sw_R 41 0 0 912) s m args below meth c Q 3 A D cT 0 0 σ' r) (σ : sw_S)  (ce sl : Nat) (h : b_X0_accepts_72  σ = some (r, σ')) (hce : ce + (0) ≤ 0) (hsl : sl + (0) ≤ 0) : sw_G p l e (sw_R 41 0 0 912) s m args below meth c Q 3 A D cT σ ce sl 72 [] [] := by
  unfold b_X0_accepts_72 at h
  refine g_iconst (pc := 72) (v := 0) K dX0_accepts_72 (by decide) ?_
  refine g_sub K [] rfl ?_
  exact w_X0_accepts_73 K hT  _ _ _ _ h (by omega) (by omega)
def f_X0_accepts (p0 : Nat) (q1 : Int32) (q2 : Nat) (σ : sw_S) : Option (Int32 × sw_S) :=
  (sw_pt 0 p0 7 (.int 0) σ).bind fun σ1 =>
  (sw_pt 0 p0 8 (.int 0) σ1).bind fun σ3 =>
  (sw_pt 0 p0 9 (.int 0) σ3).bind fun σ5 =>
  (sw_ob 0 p0 σ5).bind fun f7 =>
  sw_b2 (f_X0_readNode 8 p0 1 σ5) fun x10 σ11 =>
  (if x10 = 0 then
  b_X0_accepts_72 σ11
  else
  (sw_gI 0 p0 7 σ11).bind fun x13 =>
  (sw_gR 0 p0 1 σ11).bind fun r15 =>
  r15.bind fun a17 =>
  (sw_gI 2 a17 1 σ11).bind fun x18 =>
  (if x13 = x18 then
  (sw_gI 0 p0 11 σ11).bind fun x21 =>
  (if x21 = q1 then
  (sw_ob 0 p0 σ11).bind fun f24 =>
  (f_X0_keysRise p0 σ11).bind fun x27 =>
  (if x27 = 0 then
  b_X0_accepts_72 σ11
  else
  (sw_ob 0 p0 σ11).bind fun f29 =>
  (f_X0_leftOutFits p0 q2 σ11).bind fun x32 =>
  (if x32 = 0 then
  b_X0_accepts_72 σ11
  else
  (sw_ob 0 p0 σ11).bind fun f34 =>
  (f_X0_shownFits p0 q2 σ11).bind fun x37 =>
  (if x37 = 0 then
  b_X0_accepts_72 σ11
  else
  b_X0_accepts_73 1 σ11)))
  else
  b_X0_accepts_72 σ11)
  else
  b_X0_accepts_72 σ11))
set_option maxHeartbeats 4000000 in
set_option maxRecDepth 100000 in
theorem c_X0_accepts  (l : Launch) (D : va_G) (cT : Nat → ClassId) (p0 : Nat) (q1 : Int32) (q2 : Nat) (σ : sw_S) {r : Int32} {σ' : sw_S} (h : f_X0_accepts p0 q1 q2 σ = some (r, σ')) : sw_M l D cT yX0_accepts cX0_accepts 3 (some .boolean) 41 912 0 0 σ [P_ (some p0), I_ q1, P_ (some q2)] (some (I_ r)) σ' := by
  refine sw_met_z (by decide) (Nat.le_of_ble_eq_true rfl) (fun p e s m args below meth c A Q K hnm hT => ?_)
  have hce : 0 + 0 ≤ 0 := Nat.le_of_ble_eq_true rfl
  have hsl : 0 + 0 ≤ 0 := Nat.le_of_ble_eq_true rfl
  unfold f_X0_accepts at h
  change sw_G p l e (sw_R 41 0 0 912) s m args below meth c Q 3 A D cT σ 0 0 0 [(0, P_ (some p0)), (1, I_ q1), (2, P_ (some q2))] []
  refine g_aload_n (pc := 0) K 0 rfl rfl dX0_accepts_0 ?_
  refine g_iconst (pc := 1) (v := 0) K dX0_accepts_1 (by decide) ?_
  replace h := Option.bind_eq_some_iff.mp h
  obtain ⟨σ1, e2, h⟩ := h
  refine g_put (pc := 2) K cl_0 hin_X0 (k := 7) (by decide) tb_133 rfl tyX0 tyX0_ok nmX0 (Or.inl rfl) rfl rfl e2 dX0_accepts_2 ?_
  refine g_aload_n (pc := 5) K 0 rfl rfl dX0_accepts_5 ?_
  refine g_iconst (pc := 6) (v := 0) K dX0_accepts_6 (by decide) ?_
  replace h := Option.bind_eq_some_iff.mp h
  obtain ⟨σ3, e4, h⟩ := h
  refine g_put (pc := 7) K cl_0 hin_X0 (k := 8) (by decide) tb_134 rfl tyX0 tyX0_ok nmX0 (Or.inl rfl) rfl rfl e4 dX0_accepts_7 ?_
  refine g_aload_n (pc := 10) K 0 rfl rfl dX0_accepts_10 ?_
  refine g_iconst (pc := 11) (v := 0) K dX0_accepts_11 (by decide) ?_
  replace h := Option.bind_eq_some_iff.mp h
  obtain ⟨σ5, e6, h⟩ := h
  refine g_put (pc := 12) K cl_0 hin_X0 (k := 9) (by decide) tb_135 rfl tyX0 tyX0_ok nmX0 (Or.inl rfl) rfl rfl e6 dX0_accepts_12 ?_
  refine g_aload_n (pc := 15) K 0 rfl rfl dX0_accepts_15 ?_
  refine g_iconst (pc := 16) (v := 1) K dX0_accepts_16 (by decide) ?_
  replace h := Option.bind_eq_some_iff.mp h
  obtain ⟨f7, e8, h⟩ := h
  replace h := sw_b2_eq h
  obtain ⟨x10, σ11, e9, h⟩ := h
  refine g_callV (pc := 17) (st := []) K [I_ 1] (c_X0_readNode _ _ _ 8 _ _ _ e9) e8 cl_0 rfl tb_405 tb_402 tb_5 tb_404 sl_11 hd_X0_readNode ⟨Nat.le_of_ble_eq_true rfl, Nat.le_of_ble_eq_true rfl⟩ rfl (sw_rm (Nat.le_of_ble_eq_true rfl)) ⟨by show _ ≤ 0; omega, by show _ ≤ 0; omega⟩ dX0_accepts_17 ?_
  refine g_if_eq (pc := 20) K 72 dX0_accepts_20 (by decide) (fun c12 => ?_) (fun c12 => ?_)
  · replace h := (if_pos c12).symm.trans h
    refine g_sub K [] rfl ?_
    exact w_X0_accepts_72 K hT   _ _ _ h (by omega) (by omega)
  · replace h := (if_neg c12).symm.trans h
    refine g_aload_n (pc := 23) K 0 rfl rfl dX0_accepts_23 ?_
    replace h := Option.bind_eq_some_iff.mp h
    obtain ⟨x13, e14, h⟩ := h
    refine g_getI (pc := 24) K cl_0 hin_X0 (k := 7) (by decide) tb_133 rfl e14 dX0_accepts_24 ?_
    refine g_aload_n (pc := 27) K 0 rfl rfl dX0_accepts_27 ?_
    replace h := Option.bind_eq_some_iff.mp h
    obtain ⟨r15, e16, h⟩ := h
    refine g_getR (pc := 28) K cl_0 hin_X0 (k := 1) (by decide) tb_127 rfl e16 dX0_accepts_28 ?_
    replace h := Option.bind_eq_some_iff.mp h
    obtain ⟨a17, rfl, h⟩ := h
    replace h := Option.bind_eq_some_iff.mp h
    obtain ⟨x18, e19, h⟩ := h
    refine g_getI (pc := 31) K cl_2 hin_X2 (k := 1) (by decide) tb_113 rfl e19 dX0_accepts_31 ?_
    refine g_icmp_ne (pc := 34) K 72 dX0_accepts_34 (by decide) (fun c20 => ?_) (fun c20 => ?_)
    · replace h := (if_pos c20).symm.trans h
      refine g_aload_n (pc := 37) K 0 rfl rfl dX0_accepts_37 ?_
      replace h := Option.bind_eq_some_iff.mp h
      obtain ⟨x21, e22, h⟩ := h
      refine g_getI (pc := 38) K cl_0 hin_X0 (k := 11) (by decide) tb_137 rfl e22 dX0_accepts_38 ?_
      refine g_iload_n (pc := 41) K 1 rfl rfl dX0_accepts_41 ?_
      refine g_icmp_ne (pc := 42) K 72 dX0_accepts_42 (by decide) (fun c23 => ?_) (fun c23 => ?_)
      · replace h := (if_pos c23).symm.trans h
        refine g_aload_n (pc := 45) K 0 rfl rfl dX0_accepts_45 ?_
        replace h := Option.bind_eq_some_iff.mp h
        obtain ⟨f24, e25, h⟩ := h
        replace h := Option.bind_eq_some_iff.mp h
        obtain ⟨x27, e26, h⟩ := h
        refine g_callV (pc := 46) (st := []) K [] (c_X0_keysRise _ _ _ _ _ e26) e25 cl_0 rfl tb_443 tb_440 tb_5 tb_442 sl_20 hd_X0_keysRise ⟨Nat.le_of_ble_eq_true rfl, Nat.le_of_ble_eq_true rfl⟩ rfl (sw_rm (Nat.le_of_ble_eq_true rfl)) ⟨by show _ ≤ 0; omega, by show _ ≤ 0; omega⟩ dX0_accepts_46 ?_
        refine g_if_eq (pc := 49) K 72 dX0_accepts_49 (by decide) (fun c28 => ?_) (fun c28 => ?_)
        · replace h := (if_pos c28).symm.trans h
          refine g_sub K [] rfl ?_
          exact w_X0_accepts_72 K hT   _ _ _ h (by omega) (by omega)
        · replace h := (if_neg c28).symm.trans h
          refine g_aload_n (pc := 52) K 0 rfl rfl dX0_accepts_52 ?_
          refine g_aload_n (pc := 53) K 2 rfl rfl dX0_accepts_53 ?_
          replace h := Option.bind_eq_some_iff.mp h
          obtain ⟨f29, e30, h⟩ := h
          replace h := Option.bind_eq_some_iff.mp h
          obtain ⟨x32, e31, h⟩ := h
          refine g_callV (pc := 54) (st := []) K [P_ (some q2)] (c_X0_leftOutFits _ _ _ _ _ _ e31) e30 cl_0 rfl tb_447 tb_444 tb_5 tb_446 sl_21 hd_X0_leftOutFits ⟨Nat.le_of_ble_eq_true rfl, Nat.le_of_ble_eq_true rfl⟩ rfl (sw_rm (Nat.le_of_ble_eq_true rfl)) ⟨by show _ ≤ 0; omega, by show _ ≤ 0; omega⟩ dX0_accepts_54 ?_
          refine g_if_eq (pc := 57) K 72 dX0_accepts_57 (by decide) (fun c33 => ?_) (fun c33 => ?_)
          · replace h := (if_pos c33).symm.trans h
            refine g_sub K [] rfl ?_
            exact w_X0_accepts_72 K hT   _ _ _ h (by omega) (by omega)
          · replace h := (if_neg c33).symm.trans h
            refine g_aload_n (pc := 60) K 0 rfl rfl dX0_accepts_60 ?_
            refine g_aload_n (pc := 61) K 2 rfl rfl dX0_accepts_61 ?_
            replace h := Option.bind_eq_some_iff.mp h
            obtain ⟨f34, e35, h⟩ := h
            replace h := Option.bind_eq_some_iff.mp h
            obtain ⟨x37, e36, h⟩ := h
            refine g_callV (pc := 62) (st := []) K [P_ (some q2)] (c_X0_shownFits _ _ _ _ _ _ e36) e35 cl_0 rfl tb_462 tb_459 tb_5 tb_461 sl_24 hd_X0_shownFits ⟨Nat.le_of_ble_eq_true rfl, Nat.le_of_ble_eq_true rfl⟩ rfl (sw_rm (Nat.le_of_ble_eq_true rfl)) ⟨by show _ ≤ 0; omega, by show _ ≤ 0; omega⟩ dX0_accepts_62 ?_
            refine g_if_eq (pc := 65) K 72 dX0_accepts_65 (by decide) (fun c38 => ?_) (fun c38 => ?_)
            · replace h := (if_pos c38).symm.trans h
              refine g_sub K [] rfl ?_
              exact w_X0_accepts_72 K hT   _ _ _ h (by omega) (by omega)
            · replace h := (if_neg c38).symm.trans h
              refine g_iconst (pc := 68) (v := 1) K dX0_accepts_68 (by decide) ?_
              refine g_goto (pc := 69) (tgt := 73) K dX0_accepts_69 (by decide) ?_
              refine g_sub K [] rfl ?_
              exact w_X0_accepts_73 K hT  _ _ _ _ h (by omega) (by omega)
      · replace h := (if_neg c23).symm.trans h
        refine g_sub K [] rfl ?_
        exact w_X0_accepts_72 K hT   _ _ _ h (by omega) (by omega)
    · replace h := (if_neg c20).symm.trans h
      refine g_sub K [] rfl ?_
      exact w_X0_accepts_72 K hT   _ _ _ h (by omega) (by omega)
