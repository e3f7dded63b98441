def f_X3_init (p0 : Nat) (q1 : Nat) (q2 : Nat) (σ : sw_S) : Option sw_S :=
  (sw_pt 3 p0 0 (va_rf (some q1)) σ).bind fun σ1 =>
  (sw_pt 3 p0 1 (va_rf (some q2)) σ1).bind fun σ3 =>
  some σ3
set_option maxHeartbeats 4000000 in
set_option maxRecDepth 100000 in
theorem c_X3_init  (l : Launch) (D : va_G) (cT : Nat → ClassId) (p0 : Nat) (q1 : Nat) (q2 : Nat) (σ : sw_S) {σ' : sw_S} (h : f_X3_init p0 q1 q2 σ = some σ') : sw_M l D cT yX3_init cX3_init 3 none 1 20 0 0 σ [P_ (some p0), P_ (some q1), P_ (some q2)] none σ' := by
  refine sw_met_v (by decide) (Nat.le_of_ble_eq_true rfl) (fun p e s m args below meth c A Q K hnm hT => ?_)
  have hce : 0 + 0 ≤ 0 := Nat.le_of_ble_eq_true rfl
  have hsl : 0 + 0 ≤ 0 := Nat.le_of_ble_eq_true rfl
  unfold f_X3_init at h
  change sw_G p l e (sw_R 1 0 0 20) s m args below meth c Q 3 A D cT σ 0 0 0 [(0, P_ (some p0)), (1, P_ (some q1)), (2, P_ (some q2))] []
  refine g_aload_n (pc := 0) K 0 rfl rfl dX3_init_0 ?_
  refine g_objInit (pc := 1) K tb_335 tb_16 tb_17 ⟨Nat.le_of_ble_eq_true rfl, Nat.le_of_ble_eq_true rfl⟩ (sw_rm (Nat.le_of_ble_eq_true rfl)) dX3_init_1 ?_
  refine g_aload_n (pc := 4) K 0 rfl rfl dX3_init_4 ?_
  refine g_aload_n (pc := 5) K 1 rfl rfl dX3_init_5 ?_
  replace h := Option.bind_eq_some_iff.mp h
  obtain ⟨σ1, e2, h⟩ := h
  refine g_put (pc := 6) K cl_3 hin_X3 (k := 0) (by decide) tb_336 rfl tyX3 tyX3_ok nmX3 (Or.inr ⟨rfl, hnm, rfl⟩) (sw_nr (tyX3 0) rfl _) (sw_fr (tyX3 0) rfl _) e2 dX3_init_6 ?_
  refine g_aload_n (pc := 9) K 0 rfl rfl dX3_init_9 ?_
  refine g_aload_n (pc := 10) K 2 rfl rfl dX3_init_10 ?_
  replace h := Option.bind_eq_some_iff.mp h
  obtain ⟨σ3, e4, h⟩ := h
  refine g_put (pc := 11) K cl_3 hin_X3 (k := 1) (by decide) tb_337 rfl tyX3 tyX3_ok nmX3 (Or.inr ⟨rfl, hnm, rfl⟩) (sw_nr (tyX3 1) rfl _) (sw_fr (tyX3 1) rfl _) e4 dX3_init_11 ?_
  cases h
  exact hT _ _ 14 _ (by omega) (by omega) dX3_init_14

def f_X3_writeLeftOut (p0 : Nat) (q1 : Nat) (σ : sw_S) : Option sw_S :=
  (sw_gR 3 p0 0 σ).bind fun r1 =>
  r1.bind fun a3 =>
  (sw_ob 2 a3 σ).bind fun f4 =>
  (f_X2_append a3 0 σ).bind fun σ7 =>
  (sw_gR 3 p0 0 σ7).bind fun r8 =>
  (sw_gI 1 q1 5 σ7).bind fun x10 =>
  r8.bind fun a12 =>
  (sw_ob 2 a12 σ7).bind fun f13 =>
  (f_X2_append a12 x10 σ7).bind fun σ16 =>
  (sw_gR 3 p0 0 σ16).bind fun r17 =>
  (sw_gI 1 q1 7 σ16).bind fun x19 =>
  r17.bind fun a21 =>
  (sw_ob 2 a21 σ16).bind fun f22 =>
  (f_X2_append a21 x19 σ16).bind fun σ25 =>
  (sw_gR 3 p0 0 σ25).bind fun r26 =>
  (sw_gI 1 q1 6 σ25).bind fun x28 =>
  r26.bind fun a30 =>
  (sw_ob 2 a30 σ25).bind fun f31 =>
  (f_X2_append a30 x28 σ25).bind fun σ34 =>
  some σ34
set_option maxHeartbeats 4000000 in
set_option maxRecDepth 100000 in
theorem c_X3_writeLeftOut  (l : Launch) (D : va_G) (cT : Nat → ClassId) (p0 : Nat) (q1 : Nat) (σ : sw_S) {σ' : sw_S} (h : f_X3_writeLeftOut p0 q1 σ = some σ') : sw_M l D cT yX3_writeLeftOut cX3_writeLeftOut 2 none 1 21 0 0 σ [P_ (some p0), P_ (some q1)] none σ' := by
  refine sw_met_v (by decide) (Nat.le_of_ble_eq_true rfl) (fun p e s m args below meth c A Q K hnm hT => ?_)
  have hce : 0 + 0 ≤ 0 := Nat.le_of_ble_eq_true rfl
  have hsl : 0 + 0 ≤ 0 := Nat.le_of_ble_eq_true rfl
  unfold f_X3_writeLeftOut at h
  change sw_G p l e (sw_R 1 0 0 21) s m args below meth c Q 2 A D cT σ 0 0 0 [(0, P_ (some p0)), (1, P_ (some q1))] []
  refine g_aload_n (pc := 0) K 0 rfl rfl dX3_writeLeftOut_0 ?_
  replace h := Option.bind_eq_some_iff.mp h
  obtain ⟨r1, e2, h⟩ := h
  refine g_getR (pc := 1) K cl_3 hin_X3 (k := 0) (by decide) tb_336 rfl e2 dX3_writeLeftOut_1 ?_
  refine g_iconst (pc := 4) (v := 0) K dX3_writeLeftOut_4 (by decide) ?_
  replace h := Option.bind_eq_some_iff.mp h
  obtain ⟨a3, rfl, h⟩ := h
  replace h := Option.bind_eq_some_iff.mp h
  obtain ⟨f4, e5, h⟩ := h
  replace h := Option.bind_eq_some_iff.mp h
  obtain ⟨σ7, e6, h⟩ := h
  refine g_callV (pc := 5) (st := []) K [I_ 0] (c_X2_append _ _ _ _ _ _ e6) e5 cl_2 rfl tb_356 tb_353 tb_4 tb_354 tb_355 hd_X2_append ⟨Nat.le_of_ble_eq_true rfl, Nat.le_of_ble_eq_true rfl⟩ rfl (sw_rm (Nat.le_of_ble_eq_true rfl)) ⟨by show _ ≤ 0; omega, by show _ ≤ 0; omega⟩ dX3_writeLeftOut_5 ?_
  refine g_aload_n (pc := 8) K 0 rfl rfl dX3_writeLeftOut_8 ?_
  replace h := Option.bind_eq_some_iff.mp h
  obtain ⟨r8, e9, h⟩ := h
  refine g_getR (pc := 9) K cl_3 hin_X3 (k := 0) (by decide) tb_336 rfl e9 dX3_writeLeftOut_9 ?_
  refine g_aload_n (pc := 12) K 1 rfl rfl dX3_writeLeftOut_12 ?_
  replace h := Option.bind_eq_some_iff.mp h
  obtain ⟨x10, e11, h⟩ := h
  refine g_getI (pc := 13) K cl_1 hin_X1 (k := 5) (by decide) tb_48 rfl e11 dX3_writeLeftOut_13 ?_
  replace h := Option.bind_eq_some_iff.mp h
  obtain ⟨a12, rfl, h⟩ := h
  replace h := Option.bind_eq_some_iff.mp h
  obtain ⟨f13, e14, h⟩ := h
  replace h := Option.bind_eq_some_iff.mp h
  obtain ⟨σ16, e15, h⟩ := h
  refine g_callV (pc := 16) (st := []) K [I_ x10] (c_X2_append _ _ _ _ _ _ e15) e14 cl_2 rfl tb_356 tb_353 tb_4 tb_354 tb_355 hd_X2_append ⟨Nat.le_of_ble_eq_true rfl, Nat.le_of_ble_eq_true rfl⟩ rfl (sw_rm (Nat.le_of_ble_eq_true rfl)) ⟨by show _ ≤ 0; omega, by show _ ≤ 0; omega⟩ dX3_writeLeftOut_16 ?_
  refine g_aload_n (pc := 19) K 0 rfl rfl dX3_writeLeftOut_19 ?_
  replace h := Option.bind_eq_some_iff.mp h
  obtain ⟨r17, e18, h⟩ := h
  refine g_getR (pc := 20) K cl_3 hin_X3 (k := 0) (by decide) tb_336 rfl e18 dX3_writeLeftOut_20 ?_
  refine g_aload_n (pc := 23) K 1 rfl rfl dX3_writeLeftOut_23 ?_
  replace h := Option.bind_eq_some_iff.mp h
  obtain ⟨x19, e20, h⟩ := h
  refine g_getI (pc := 24) K cl_1 hin_X1 (k := 7) (by decide) tb_53 rfl e20 dX3_writeLeftOut_24 ?_
  replace h := Option.bind_eq_some_iff.mp h
  obtain ⟨a21, rfl, h⟩ := h
  replace h := Option.bind_eq_some_iff.mp h
  obtain ⟨f22, e23, h⟩ := h
  replace h := Option.bind_eq_some_iff.mp h
  obtain ⟨σ25, e24, h⟩ := h
  refine g_callV (pc := 27) (st := []) K [I_ x19] (c_X2_append _ _ _ _ _ _ e24) e23 cl_2 rfl tb_356 tb_353 tb_4 tb_354 tb_355 hd_X2_append ⟨Nat.le_of_ble_eq_true rfl, Nat.le_of_ble_eq_true rfl⟩ rfl (sw_rm (Nat.le_of_ble_eq_true rfl)) ⟨by show _ ≤ 0; omega, by show _ ≤ 0; omega⟩ dX3_writeLeftOut_27 ?_
  refine g_aload_n (pc := 30) K 0 rfl rfl dX3_writeLeftOut_30 ?_
  replace h := Option.bind_eq_some_iff.mp h
  obtain ⟨r26, e27, h⟩ := h
  refine g_getR (pc := 31) K cl_3 hin_X3 (k := 0) (by decide) tb_336 rfl e27 dX3_writeLeftOut_31 ?_
  refine g_aload_n (pc := 34) K 1 rfl rfl dX3_writeLeftOut_34 ?_
  replace h := Option.bind_eq_some_iff.mp h
  obtain ⟨x28, e29, h⟩ := h
  refine g_getI (pc := 35) K cl_1 hin_X1 (k := 6) (by decide) tb_51 rfl e29 dX3_writeLeftOut_35 ?_
  replace h := Option.bind_eq_some_iff.mp h
  obtain ⟨a30, rfl, h⟩ := h
  replace h := Option.bind_eq_some_iff.mp h
  obtain ⟨f31, e32, h⟩ := h
  replace h := Option.bind_eq_some_iff.mp h
  obtain ⟨σ34, e33, h⟩ := h
  refine g_callV (pc := 38) (st := []) K [I_ x28] (c_X2_append _ _ _ _ _ _ e33) e32 cl_2 rfl tb_356 tb_353 tb_4 tb_354 tb_355 hd_X2_append ⟨Nat.le_of_ble_eq_true rfl, Nat.le_of_ble_eq_true rfl⟩ rfl (sw_rm (Nat.le_of_ble_eq_true rfl)) ⟨by show _ ≤ 0; omega, by show _ ≤ 0; omega⟩ dX3_writeLeftOut_38 ?_
  cases h
  exact hT _ _ 41 _ (by omega) (by omega) dX3_writeLeftOut_41

def B_X3_writeLeaf_21 (rec21 : Nat → Nat → Int32 → sw_S → Option sw_S) (v0 : Nat) (v1 : Nat) (v2 : Int32) (σ : sw_S) : Option sw_S :=
  (sw_gI 1 v1 4 σ).bind fun x1 =>
  (if x1 ≤ v2 then
  some σ
  else
  (sw_gR 3 v0 0 σ).bind fun r4 =>
  (sw_gR 1 v1 1 σ).bind fun r6 =>
  r6.bind fun a8 =>
  (sw_al 0 a8 v2 σ).bind fun x10 =>
  r4.bind fun a11 =>
  (sw_ob 2 a11 σ).bind fun f12 =>
  (f_X2_append a11 x10 σ).bind fun σ15 =>
  (sw_gR 3 v0 0 σ15).bind fun r16 =>
  (sw_gR 1 v1 2 σ15).bind fun r18 =>
  r18.bind fun a20 =>
  (sw_al 0 a20 v2 σ15).bind fun x22 =>
  r16.bind fun a23 =>
  (sw_ob 2 a23 σ15).bind fun f24 =>
  (f_X2_append a23 x22 σ15).bind fun σ27 =>
  rec21 v0 v1 ((v2 + 1)) σ27)
set_option maxHeartbeats 4000000 in
set_option maxRecDepth 100000 in
theorem wB_X3_writeLeaf_21 {p : Program} {l : Launch} {e : Env} {s : State} {m : MethodId} {args : Array Value} {below : List Frame} {meth : Method} {c : Code} {Q : State → Prop} {A : Nat → Prop} {D : va_G} {cT : Nat → ClassId} {σ' : sw_S}  (K : sw_C p s m args c cX3_writeLeaf 3 RX3 A D cT) (hT : sw_Tv cX3_writeLeaf p l e (sw_R 1 0 0 21) s m args below meth c Q 3 A D cT 0 0 σ') {rec21 : Nat → Nat → Int32 → sw_S → Option sw_S} (hrec21 : ∀ (v0 : Nat) (v1 : Nat) (v2 : Int32) (σ : sw_S) (ce sl : Nat), rec21 v0 v1 v2 σ = some σ' → ce + (0) ≤ 0 → sl + (0) ≤ 0 → sw_G p l e (sw_R 1 0 0 21) s m args below meth c Q 3 A D cT σ ce sl 21 [(0, P_ (some v0)), (1, P_ (some v1)), (2, I_ v2)] []) (v0 : Nat) (v1 : Nat) (v2 : Int32) (σ : sw_S)  (ce sl : Nat) (h : B_X3_writeLeaf_21 rec21 v0 v1 v2 σ = some σ') (hce : ce + (0) ≤ 0) (hsl : sl + (0) ≤ 0) : sw_G p l e (sw_R 1 0 0 21) s m args below meth c Q 3 A D cT σ ce sl 21 [(0, P_ (some v0)), (1, P_ (some v1)), (2, I_ v2)] [] := by
  unfold B_X3_writeLeaf_21 at h
  refine g_iload_n (pc := 21) K 2 rfl rfl dX3_writeLeaf_21 ?_
  refine g_aload_n (pc := 22) K 1 rfl rfl dX3_writeLeaf_22 ?_
  replace h := Option.bind_eq_some_iff.mp h
  obtain ⟨x1, e2, h⟩ := h
  refine g_getI (pc := 23) K cl_1 hin_X1 (k := 4) (by decide) tb_45 rfl e2 dX3_writeLeaf_23 ?_
  refine g_icmp_ge (pc := 26) K 61 dX3_writeLeaf_26 (by decide) (fun c3 => ?_) (fun c3 => ?_)
  · replace h := (if_pos c3).symm.trans h
    cases h
    exact hT _ _ 61 _ (by omega) (by omega) dX3_writeLeaf_61
  · replace h := (if_neg c3).symm.trans h
    refine g_aload_n (pc := 29) K 0 rfl rfl dX3_writeLeaf_29 ?_
    replace h := Option.bind_eq_some_iff.mp h
    obtain ⟨r4, e5, h⟩ := h
    refine g_getR (pc := 30) K cl_3 hin_X3 (k := 0) (by decide) tb_336 rfl e5 dX3_writeLeaf_30 ?_
    refine g_aload_n (pc := 33) K 1 rfl rfl dX3_writeLeaf_33 ?_
    replace h := Option.bind_eq_some_iff.mp h
    obtain ⟨r6, e7, h⟩ := h
    refine g_getR (pc := 34) K cl_1 hin_X1 (k := 1) (by decide) tb_36 rfl e7 dX3_writeLeaf_34 ?_
    refine g_iload_n (pc := 37) K 2 rfl rfl dX3_writeLeaf_37 ?_
    replace h := Option.bind_eq_some_iff.mp h
    obtain ⟨a8, rfl, h⟩ := h
    replace h := Option.bind_eq_some_iff.mp h
    obtain ⟨x10, e9, h⟩ := h
    refine g_iald (pc := 38) K e9 dX3_writeLeaf_38 ?_
    replace h := Option.bind_eq_some_iff.mp h
    obtain ⟨a11, rfl, h⟩ := h
    replace h := Option.bind_eq_some_iff.mp h
    obtain ⟨f12, e13, h⟩ := h
    replace h := Option.bind_eq_some_iff.mp h
    obtain ⟨σ15, e14, h⟩ := h
    refine g_callV (pc := 39) (st := []) K [I_ x10] (c_X2_append _ _ _ _ _ _ e14) e13 cl_2 rfl tb_356 tb_353 tb_4 tb_354 tb_355 hd_X2_append ⟨Nat.le_of_ble_eq_true rfl, Nat.le_of_ble_eq_true rfl⟩ rfl (sw_rm (Nat.le_of_ble_eq_true rfl)) ⟨by show _ ≤ 0; omega, by show _ ≤ 0; omega⟩ dX3_writeLeaf_39 ?_
    refine g_aload_n (pc := 42) K 0 rfl rfl dX3_writeLeaf_42 ?_
    replace h := Option.bind_eq_some_iff.mp h
    obtain ⟨r16, e17, h⟩ := h
    refine g_getR (pc := 43) K cl_3 hin_X3 (k := 0) (by decide) tb_336 rfl e17 dX3_writeLeaf_43 ?_
    refine g_aload_n (pc := 46) K 1 rfl rfl dX3_writeLeaf_46 ?_
    replace h := Option.bind_eq_some_iff.mp h
    obtain ⟨r18, e19, h⟩ := h
    refine g_getR (pc := 47) K cl_1 hin_X1 (k := 2) (by decide) tb_40 rfl e19 dX3_writeLeaf_47 ?_
    refine g_iload_n (pc := 50) K 2 rfl rfl dX3_writeLeaf_50 ?_
    replace h := Option.bind_eq_some_iff.mp h
    obtain ⟨a20, rfl, h⟩ := h
    replace h := Option.bind_eq_some_iff.mp h
    obtain ⟨x22, e21, h⟩ := h
    refine g_iald (pc := 51) K e21 dX3_writeLeaf_51 ?_
    replace h := Option.bind_eq_some_iff.mp h
    obtain ⟨a23, rfl, h⟩ := h
    replace h := Option.bind_eq_some_iff.mp h
    obtain ⟨f24, e25, h⟩ := h
    replace h := Option.bind_eq_some_iff.mp h
    obtain ⟨σ27, e26, h⟩ := h
    refine g_callV (pc := 52) (st := []) K [I_ x22] (c_X2_append _ _ _ _ _ _ e26) e25 cl_2 rfl tb_356 tb_353 tb_4 tb_354 tb_355 hd_X2_append ⟨Nat.le_of_ble_eq_true rfl, Nat.le_of_ble_eq_true rfl⟩ rfl (sw_rm (Nat.le_of_ble_eq_true rfl)) ⟨by show _ ≤ 0; omega, by show _ ≤ 0; omega⟩ dX3_writeLeaf_52 ?_
    refine g_iinc (pc := 55) K 2 (v2 + 1) [(2, I_ ((v2 + 1))), (0, P_ (some v0)), (1, P_ (some v1))] rfl rfl (by decide) rfl dX3_writeLeaf_55 ?_
    refine g_goto (pc := 58) (tgt := 21) K dX3_writeLeaf_58 (by decide) ?_
    refine g_sub K [1, 2, 0] rfl ?_
    exact hrec21 _ _ _ _ _ _ h (by omega) (by omega)
def b_X3_writeLeaf_21  : Nat → Nat → Nat → Int32 → sw_S → Option sw_S
  | 0 => fun _ _ _ _ => none
  | n + 1 => B_X3_writeLeaf_21 (b_X3_writeLeaf_21  n)
theorem wl_X3_writeLeaf_21 {p : Program} {l : Launch} {e : Env} {s : State} {m : MethodId} {args : Array Value} {below : List Frame} {meth : Method} {c : Code} {Q : State → Prop} {A : Nat → Prop} {D : va_G} {cT : Nat → ClassId} {σ' : sw_S}  (K : sw_C p s m args c cX3_writeLeaf 3 RX3 A D cT) (hT : sw_Tv cX3_writeLeaf p l e (sw_R 1 0 0 21) s m args below meth c Q 3 A D cT 0 0 σ') : ∀ (n : Nat) (v0 : Nat) (v1 : Nat) (v2 : Int32) (σ : sw_S) (ce sl : Nat), b_X3_writeLeaf_21  n v0 v1 v2 σ = some σ' → ce + (0) ≤ 0 → sl + (0) ≤ 0 → sw_G p l e (sw_R 1 0 0 21) s m args below meth c Q 3 A D cT σ ce sl 21 [(0, P_ (some v0)), (1, P_ (some v1)), (2, I_ v2)] [] := by
  intro n
  induction n with
  | zero =>
    intro v0 v1 v2 σ ce sl h
    exact absurd (show none = some σ' from h) (by simp)
  | succ n ih =>
    intro v0 v1 v2 σ ce sl h hce hsl
    exact wB_X3_writeLeaf_21 K hT (fun _ _ _ _ _ _ h h1 h2 => ih _ _ _ _ _ _ h h1 h2) _ _ _ _ _ _ h hce hsl
def f_X3_writeLeaf (p0 : Nat) (q1 : Nat) (σ : sw_S) : Option sw_S :=
  (sw_gR 3 p0 0 σ).bind fun r1 =>
  r1.bind fun a3 =>
  (sw_ob 2 a3 σ).bind fun f4 =>
  (f_X2_append a3 1 σ).bind fun σ7 =>
  (sw_gR 3 p0 0 σ7).bind fun r8 =>
  (sw_gI 1 q1 4 σ7).bind fun x10 =>
  r8.bind fun a12 =>
  (sw_ob 2 a12 σ7).bind fun f13 =>
  (f_X2_append a12 x10 σ7).bind fun σ16 =>
  b_X3_writeLeaf_21 1000 p0 q1 0 σ16
set_option maxHeartbeats 4000000 in
set_option maxRecDepth 100000 in
theorem c_X3_writeLeaf  (l : Launch) (D : va_G) (cT : Nat → ClassId) (p0 : Nat) (q1 : Nat) (σ : sw_S) {σ' : sw_S} (h : f_X3_writeLeaf p0 q1 σ = some σ') : sw_M l D cT yX3_writeLeaf cX3_writeLeaf 3 none 1 21 0 0 σ [P_ (some p0), P_ (some q1)] none σ' := by
  refine sw_met_v (by decide) (Nat.le_of_ble_eq_true rfl) (fun p e s m args below meth c A Q K hnm hT => ?_)
  have hce : 0 + 0 ≤ 0 := Nat.le_of_ble_eq_true rfl
  have hsl : 0 + 0 ≤ 0 := Nat.le_of_ble_eq_true rfl
  unfold f_X3_writeLeaf at h
  change sw_G p l e (sw_R 1 0 0 21) s m args below meth c Q 3 A D cT σ 0 0 0 [(0, P_ (some p0)), (1, P_ (some q1))] []
  refine g_aload_n (pc := 0) K 0 rfl rfl dX3_writeLeaf_0 ?_
  replace h := Option.bind_eq_some_iff.mp h
  obtain ⟨r1, e2, h⟩ := h
  refine g_getR (pc := 1) K cl_3 hin_X3 (k := 0) (by decide) tb_336 rfl e2 dX3_writeLeaf_1 ?_
  refine g_iconst (pc := 4) (v := 1) K dX3_writeLeaf_4 (by decide) ?_
  replace h := Option.bind_eq_some_iff.mp h
  obtain ⟨a3, rfl, h⟩ := h
  replace h := Option.bind_eq_some_iff.mp h
  obtain ⟨f4, e5, h⟩ := h
  replace h := Option.bind_eq_some_iff.mp h
  obtain ⟨σ7, e6, h⟩ := h
  refine g_callV (pc := 5) (st := []) K [I_ 1] (c_X2_append _ _ _ _ _ _ e6) e5 cl_2 rfl tb_356 tb_353 tb_4 tb_354 tb_355 hd_X2_append ⟨Nat.le_of_ble_eq_true rfl, Nat.le_of_ble_eq_true rfl⟩ rfl (sw_rm (Nat.le_of_ble_eq_true rfl)) ⟨by show _ ≤ 0; omega, by show _ ≤ 0; omega⟩ dX3_writeLeaf_5 ?_
  refine g_aload_n (pc := 8) K 0 rfl rfl dX3_writeLeaf_8 ?_
  replace h := Option.bind_eq_some_iff.mp h
  obtain ⟨r8, e9, h⟩ := h
  refine g_getR (pc := 9) K cl_3 hin_X3 (k := 0) (by decide) tb_336 rfl e9 dX3_writeLeaf_9 ?_
  refine g_aload_n (pc := 12) K 1 rfl rfl dX3_writeLeaf_12 ?_
  replace h := Option.bind_eq_some_iff.mp h
  obtain ⟨x10, e11, h⟩ := h
  refine g_getI (pc := 13) K cl_1 hin_X1 (k := 4) (by decide) tb_45 rfl e11 dX3_writeLeaf_13 ?_
  replace h := Option.bind_eq_some_iff.mp h
  obtain ⟨a12, rfl, h⟩ := h
  replace h := Option.bind_eq_some_iff.mp h
  obtain ⟨f13, e14, h⟩ := h
  replace h := Option.bind_eq_some_iff.mp h
  obtain ⟨σ16, e15, h⟩ := h
  refine g_callV (pc := 16) (st := []) K [I_ x10] (c_X2_append _ _ _ _ _ _ e15) e14 cl_2 rfl tb_356 tb_353 tb_4 tb_354 tb_355 hd_X2_append ⟨Nat.le_of_ble_eq_true rfl, Nat.le_of_ble_eq_true rfl⟩ rfl (sw_rm (Nat.le_of_ble_eq_true rfl)) ⟨by show _ ≤ 0; omega, by show _ ≤ 0; omega⟩ dX3_writeLeaf_16 ?_
  refine g_iconst (pc := 19) (v := 0) K dX3_writeLeaf_19 (by decide) ?_
  refine g_istore_n (pc := 20) K [(2, I_ 0), (0, P_ (some p0)), (1, P_ (some q1))] rfl (by decide) rfl dX3_writeLeaf_20 ?_
  refine g_sub K [1, 2, 0] rfl ?_
  exact wl_X3_writeLeaf_21 K hT  1000 _ _ _ _ _ _ h (by omega) (by omega)

def b_X3_writeInner_125 (recm : Nat → Nat → Int64 → Int64 → Int32 → sw_S → Option sw_S) (rec22 : Nat → Nat → Int64 → Int64 → Int32 → Int32 → sw_S → Option sw_S) (v0 : Nat) (v1 : Nat) (v2 : Int64) (v4 : Int64) (v6 : Int32) (v7 : Int32) (σ : sw_S) : Option sw_S :=
  rec22 v0 v1 v2 v4 v6 ((v7 + 1)) σ
set_option maxHeartbeats 4000000 in
set_option maxRecDepth 100000 in
theorem w_X3_writeInner_125 {p : Program} {l : Launch} {e : Env} {s : State} {m : MethodId} {args : Array Value} {below : List Frame} {meth : Method} {c : Code} {Q : State → Prop} {A : Nat → Prop} {D : va_G} {cT : Nat → ClassId} {σ' : sw_S}  {recm : Nat → Nat → Int64 → Int64 → Int32 → sw_S → Option sw_S} {fr0 lo0 : Nat} (hm : ∀ (p0 : Nat) (q1 : Nat) (q2 : Int64) (q3 : Int64) (q4 : Int32) (σ : sw_S) {σ' : sw_S}, recm p0 q1 q2 q3 q4 σ = some σ' → sw_M l D cT yX3_write cX3_write 7 none fr0 lo0 0 0 σ [P_ (some p0), P_ (some q1), J_ q2, J_ q3, I_ q4] none σ')  (K : sw_C p s m args c cX3_writeInner 13 RX3 A D cT) (hT : sw_Tv cX3_writeInner p l e (sw_R (fr0 + 2) 0 0 (lo0 + 48)) s m args below meth c Q 13 A D cT 0 0 σ') {rec22 : Nat → Nat → Int64 → Int64 → Int32 → Int32 → sw_S → Option sw_S} (hrec22 : ∀ (v0 : Nat) (v1 : Nat) (v2 : Int64) (v4 : Int64) (v6 : Int32) (v7 : Int32) (σ : sw_S) (ce sl : Nat), rec22 v0 v1 v2 v4 v6 v7 σ = some σ' → ce + (0) ≤ 0 → sl + (0) ≤ 0 → sw_G p l e (sw_R (fr0 + 2) 0 0 (lo0 + 48)) s m args below meth c Q 13 A D cT σ ce sl 22 [(0, P_ (some v0)), (1, P_ (some v1)), (2, J_ v2), (4, J_ v4), (6, I_ v6), (7, I_ v7)] []) (v0 : Nat) (v1 : Nat) (v2 : Int64) (v4 : Int64) (v6 : Int32) (v7 : Int32) (σ : sw_S)  (ce sl : Nat) (h : b_X3_writeInner_125 recm rec22 v0 v1 v2 v4 v6 v7 σ = some σ') (hce : ce + (0) ≤ 0) (hsl : sl + (0) ≤ 0) : sw_G p l e (sw_R (fr0 + 2) 0 0 (lo0 + 48)) s m args below meth c Q 13 A D cT σ ce sl 125 [(0, P_ (some v0)), (1, P_ (some v1)), (2, J_ v2), (4, J_ v4), (6, I_ v6), (7, I_ v7)] [] := by
  unfold b_X3_writeInner_125 at h
  refine g_iinc (pc := 125) K 5 (v7 + 1) [(7, I_ ((v7 + 1))), (0, P_ (some v0)), (1, P_ (some v1)), (2, J_ v2), (4, J_ v4), (6, I_ v6)] rfl rfl (by decide) rfl dX3_writeInner_125 ?_
  refine g_goto (pc := 128) (tgt := 22) K dX3_writeInner_128 (by decide) ?_
  refine g_sub K [1, 2, 3, 4, 5, 0] rfl ?_
  exact hrec22 _ _ _ _ _ _ _ _ _ h (by omega) (by omega)
def b_X3_writeInner_86 (recm : Nat → Nat → Int64 → Int64 → Int32 → sw_S → Option sw_S) (rec22 : Nat → Nat → Int64 → Int64 → Int32 → Int32 → sw_S → Option sw_S) (v0 : Nat) (v1 : Nat) (v2 : Int64) (v4 : Int64) (v6 : Int32) (v7 : Int32) (v8 : Option Nat) (v9 : Int64) (t0 : Int64) (σ : sw_S) : Option sw_S :=
  (sw_gR 3 v0 1 σ).bind fun r1 =>
  r1.bind fun a3 =>
  (sw_ob 4 a3 σ).bind fun f4 =>
  (f_X4_leavesOut a3 v9 t0 σ).bind fun x7 =>
  (if x7 = 0 then
  v8.bind fun a9 =>
  (sw_ob 3 v0 σ).bind fun f10 =>
  (recm v0 a9 v9 t0 ((v6 + 1)) σ).bind fun σ13 =>
  b_X3_writeInner_125 recm rec22 v0 v1 v2 v4 v6 v7 σ13
  else
  v8.bind fun a14 =>
  (sw_ob 3 v0 σ).bind fun f15 =>
  (f_X3_writeLeftOut v0 a14 σ).bind fun σ18 =>
  b_X3_writeInner_125 recm rec22 v0 v1 v2 v4 v6 v7 σ18)
set_option maxHeartbeats 4000000 in
set_option maxRecDepth 100000 in
theorem w_X3_writeInner_86 {p : Program} {l : Launch} {e : Env} {s : State} {m : MethodId} {args : Array Value} {below : List Frame} {meth : Method} {c : Code} {Q : State → Prop} {A : Nat → Prop} {D : va_G} {cT : Nat → ClassId} {σ' : sw_S}  {recm : Nat → Nat → Int64 → Int64 → Int32 → sw_S → Option sw_S} {fr0 lo0 : Nat} (hm : ∀ (p0 : Nat) (q1 : Nat) (q2 : Int64) (q3 : Int64) (q4 : Int32) (σ : sw_S) {σ' : sw_S}, recm p0 q1 q2 q3 q4 σ = some σ' → sw_M l D cT yX3_write cX3_write 7 none fr0 lo0 0 0 σ [P_ (some p0), P_ (some q1), J_ q2, J_ q3, I_ q4] none σ')  (K : sw_C p s m args c cX3_writeInner 13 RX3 A D cT) (hT : sw_Tv cX3_writeInner p l e (sw_R (fr0 + 2) 0 0 (lo0 + 48)) s m args below meth c Q 13 A D cT 0 0 σ') {rec22 : Nat → Nat → Int64 → Int64 → Int32 → Int32 → sw_S → Option sw_S} (hrec22 : ∀ (v0 : Nat) (v1 : Nat) (v2 : Int64) (v4 : Int64) (v6 : Int32) (v7 : Int32) (σ : sw_S) (ce sl : Nat), rec22 v0 v1 v2 v4 v6 v7 σ = some σ' → ce + (0) ≤ 0 → sl + (0) ≤ 0 → sw_G p l e (sw_R (fr0 + 2) 0 0 (lo0 + 48)) s m args below meth c Q 13 A D cT σ ce sl 22 [(0, P_ (some v0)), (1, P_ (some v1)), (2, J_ v2), (4, J_ v4), (6, I_ v6), (7, I_ v7)] []) (v0 : Nat) (v1 : Nat) (v2 : Int64) (v4 : Int64) (v6 : Int32) (v7 : Int32) (v8 : Option Nat) (v9 : Int64) (t0 : Int64) (σ : sw_S)  (ce sl : Nat) (h : b_X3_writeInner_86 recm rec22 v0 v1 v2 v4 v6 v7 v8 v9 t0 σ = some σ') (hce : ce + (0) ≤ 0) (hsl : sl + (0) ≤ 0) : sw_G p l e (sw_R (fr0 + 2) 0 0 (lo0 + 48)) s m args below meth c Q 13 A D cT σ ce sl 86 [(0, P_ (some v0)), (1, P_ (some v1)), (2, J_ v2), (4, J_ v4), (6, I_ v6), (7, I_ v7), (8, P_ v8), (9, J_ v9)] [J_ t0] := by
  unfold b_X3_writeInner_86 at h
  refine g_lstore (pc := 86) K [(11, J_ t0), (0, P_ (some v0)), (1, P_ (some v1)), (2, J_ v2), (4, J_ v4), (6, I_ v6), (7, I_ v7), (8, P_ v8), (9, J_ v9)] (by decide) rfl dX3_writeInner_86 ?_
  refine g_aload_n (pc := 88) K 1 rfl rfl dX3_writeInner_88 ?_
  replace h := Option.bind_eq_some_iff.mp h
  obtain ⟨r1, e2, h⟩ := h
  refine g_getR (pc := 89) K cl_3 hin_X3 (k := 1) (by decide) tb_337 rfl e2 dX3_writeInner_89 ?_
  refine g_lload (pc := 92) K 8 rfl dX3_writeInner_92 ?_
  refine g_lload (pc := 94) K 0 rfl dX3_writeInner_94 ?_
  replace h := Option.bind_eq_some_iff.mp h
  obtain ⟨a3, rfl, h⟩ := h
  replace h := Option.bind_eq_some_iff.mp h
  obtain ⟨f4, e5, h⟩ := h
  replace h := Option.bind_eq_some_iff.mp h
  obtain ⟨x7, e6, h⟩ := h
  refine g_callV (pc := 96) (st := []) K [J_ v9, J_ t0] (c_X4_leavesOut _ _ _ _ _ _ _ e6) e5 cl_4 rfl tb_364 tb_361 tb_9 tb_362 tb_363 hd_X4_leavesOut ⟨by show _ ≤ fr0 + 2; omega, by show _ ≤ lo0 + 48; omega⟩ rfl (sw_rm (Nat.le_of_ble_eq_true rfl)) ⟨by show _ ≤ 0; omega, by show _ ≤ 0; omega⟩ dX3_writeInner_96 ?_
  refine g_if_eq (pc := 99) K 111 dX3_writeInner_99 (by decide) (fun c8 => ?_) (fun c8 => ?_)
  · replace h := (if_pos c8).symm.trans h
    refine g_aload_n (pc := 111) K 1 rfl rfl dX3_writeInner_111 ?_
    refine g_aload (pc := 112) K 7 rfl dX3_writeInner_112 ?_
    refine g_lload (pc := 114) K 8 rfl dX3_writeInner_114 ?_
    refine g_lload (pc := 116) K 0 rfl dX3_writeInner_116 ?_
    refine g_iload (pc := 118) K 5 rfl dX3_writeInner_118 ?_
    refine g_iconst (pc := 120) (v := 1) K dX3_writeInner_120 (by decide) ?_
    refine g_iadd (pc := 121) K dX3_writeInner_121 ?_
    replace h := Option.bind_eq_some_iff.mp h
    obtain ⟨a9, rfl, h⟩ := h
    replace h := Option.bind_eq_some_iff.mp h
    obtain ⟨f10, e11, h⟩ := h
    replace h := Option.bind_eq_some_iff.mp h
    obtain ⟨σ13, e12, h⟩ := h
    refine g_callV (pc := 122) (st := []) K [P_ (some a9), J_ v9, J_ t0, I_ ((v6 + 1))] (hm _ _ _ _ _ _ e12) e11 cl_3 rfl tb_348 tb_377 tb_8 tb_346 tb_347 hd_X3_write ⟨by show _ ≤ fr0 + 2; omega, by show _ ≤ lo0 + 48; omega⟩ rfl (sw_rm (Nat.le_of_ble_eq_true rfl)) ⟨by show _ ≤ 0; omega, by show _ ≤ 0; omega⟩ dX3_writeInner_122 ?_
    refine g_sub K [1, 2, 3, 4, 5, 6] rfl ?_
    exact w_X3_writeInner_125 hm K hT hrec22  _ _ _ _ _ _ _ _ _ h (by omega) (by omega)
  · replace h := (if_neg c8).symm.trans h
    refine g_aload_n (pc := 102) K 1 rfl rfl dX3_writeInner_102 ?_
    refine g_aload (pc := 103) K 7 rfl dX3_writeInner_103 ?_
    replace h := Option.bind_eq_some_iff.mp h
    obtain ⟨a14, rfl, h⟩ := h
    replace h := Option.bind_eq_some_iff.mp h
    obtain ⟨f15, e16, h⟩ := h
    replace h := Option.bind_eq_some_iff.mp h
    obtain ⟨σ18, e17, h⟩ := h
    refine g_callV (pc := 105) (st := []) K [P_ (some a14)] (c_X3_writeLeftOut _ _ _ _ _ _ e17) e16 cl_3 rfl tb_376 tb_373 tb_8 tb_375 sl_10 hd_X3_writeLeftOut ⟨by show _ ≤ fr0 + 2; omega, by show _ ≤ lo0 + 48; omega⟩ rfl (sw_rm (Nat.le_of_ble_eq_true rfl)) ⟨by show _ ≤ 0; omega, by show _ ≤ 0; omega⟩ dX3_writeInner_105 ?_
    refine g_goto (pc := 108) (tgt := 125) K dX3_writeInner_108 (by decide) ?_
    refine g_sub K [1, 2, 3, 4, 5, 6] rfl ?_
    exact w_X3_writeInner_125 hm K hT hrec22  _ _ _ _ _ _ _ _ _ h (by omega) (by omega)
def b_X3_writeInner_55 (recm : Nat → Nat → Int64 → Int64 → Int32 → sw_S → Option sw_S) (rec22 : Nat → Nat → Int64 → Int64 → Int32 → Int32 → sw_S → Option sw_S) (v0 : Nat) (v1 : Nat) (v2 : Int64) (v4 : Int64) (v6 : Int32) (v7 : Int32) (v8 : Option Nat) (t0 : Int64) (σ : sw_S) : Option sw_S :=
  (sw_gI 1 v1 4 σ).bind fun x1 =>
  (if x1 ≤ ((v7 + 1)) then
  b_X3_writeInner_86 recm rec22 v0 v1 v2 v4 v6 v7 v8 t0 v4 σ
  else
  (sw_gR 1 v1 3 σ).bind fun r4 =>
  r4.bind fun a6 =>
  (sw_ql a6 ((v7 + 1)) σ).bind fun r8 =>
  r8.bind fun a9 =>
  (sw_gI 1 a9 5 σ).bind fun x10 =>
  b_X3_writeInner_86 recm rec22 v0 v1 v2 v4 v6 v7 v8 t0 ((Int32.toInt64 x10)) σ)
set_option maxHeartbeats 4000000 in
set_option maxRecDepth 100000 in
theorem w_X3_writeInner_55 {p : Program} {l : Launch} {e : Env} {s : State} {m : MethodId} {args : Array Value} {below : List Frame} {meth : Method} {c : Code} {Q : State → Prop} {A : Nat → Prop} {D : va_G} {cT : Nat → ClassId} {σ' : sw_S}  {recm : Nat → Nat → Int64 → Int64 → Int32 → sw_S → Option sw_S} {fr0 lo0 : Nat} (hm : ∀ (p0 : Nat) (q1 : Nat) (q2 : Int64) (q3 : Int64) (q4 : Int32) (σ : sw_S) {σ' : sw_S}, recm p0 q1 q2 q3 q4 σ = some σ' → sw_M l D cT yX3_write cX3_write 7 none fr0 lo0 0 0 σ [P_ (some p0), P_ (some q1), J_ q2, J_ q3, I_ q4] none σ')  (K : sw_C p s m args c cX3_writeInner 13 RX3 A D cT) (hT : sw_Tv cX3_writeInner p l e (sw_R (fr0 + 2) 0 0 (lo0 + 48)) s m args below meth c Q 13 A D cT 0 0 σ') {rec22 : Nat → Nat → Int64 → Int64 → Int32 → Int32 → sw_S → Option sw_S} (hrec22 : ∀ (v0 : Nat) (v1 : Nat) (v2 : Int64) (v4 : Int64) (v6 : Int32) (v7 : Int32) (σ : sw_S) (ce sl : Nat), rec22 v0 v1 v2 v4 v6 v7 σ = some σ' → ce + (0) ≤ 0 → sl + (0) ≤ 0 → sw_G p l e (sw_R (fr0 + 2) 0 0 (lo0 + 48)) s m args below meth c Q 13 A D cT σ ce sl 22 [(0, P_ (some v0)), (1, P_ (some v1)), (2, J_ v2), (4, J_ v4), (6, I_ v6), (7, I_ v7)] []) (v0 : Nat) (v1 : Nat) (v2 : Int64) (v4 : Int64) (v6 : Int32) (v7 : Int32) (v8 : Option Nat) (t0 : Int64) (σ : sw_S)  (ce sl : Nat) (h : b_X3_writeInner_55 recm rec22 v0 v1 v2 v4 v6 v7 v8 t0 σ = some σ') (hce : ce + (0) ≤ 0) (hsl : sl + (0) ≤ 0) : sw_G p l e (sw_R (fr0 + 2) 0 0 (lo0 + 48)) s m args below meth c Q 13 A D cT σ ce sl 55 [(0, P_ (some v0)), (1, P_ (some v1)), (2, J_ v2), (4, J_ v4), (6, I_ v6), (7, I_ v7), (8, P_ v8)] [J_ t0] := by
  unfold b_X3_writeInner_55 at h
  refine g_lstore (pc := 55) K [(9, J_ t0), (0, P_ (some v0)), (1, P_ (some v1)), (2, J_ v2), (4, J_ v4), (6, I_ v6), (7, I_ v7), (8, P_ v8)] (by decide) rfl dX3_writeInner_55 ?_
  refine g_iload (pc := 57) K 6 rfl dX3_writeInner_57 ?_
  refine g_iconst (pc := 59) (v := 1) K dX3_writeInner_59 (by decide) ?_
  refine g_iadd (pc := 60) K dX3_writeInner_60 ?_
  refine g_aload_n (pc := 61) K 2 rfl rfl dX3_writeInner_61 ?_
  replace h := Option.bind_eq_some_iff.mp h
  obtain ⟨x1, e2, h⟩ := h
  refine g_getI (pc := 62) K cl_1 hin_X1 (k := 4) (by decide) tb_45 rfl e2 dX3_writeInner_62 ?_
  refine g_icmp_ge (pc := 65) K 84 dX3_writeInner_65 (by decide) (fun c3 => ?_) (fun c3 => ?_)
  · replace h := (if_pos c3).symm.trans h
    refine g_lload (pc := 84) K 4 rfl dX3_writeInner_84 ?_
    refine g_sub K [1, 2, 3, 4, 5, 6, 7, 0] rfl ?_
    exact w_X3_writeInner_86 hm K hT hrec22  _ _ _ _ _ _ _ _ _ _ _ _ h (by omega) (by omega)
  · replace h := (if_neg c3).symm.trans h
    refine g_aload_n (pc := 68) K 2 rfl rfl dX3_writeInner_68 ?_
    replace h := Option.bind_eq_some_iff.mp h
    obtain ⟨r4, e5, h⟩ := h
    refine g_getR (pc := 69) K cl_1 hin_X1 (k := 3) (by decide) tb_42 rfl e5 dX3_writeInner_69 ?_
    refine g_iload (pc := 72) K 6 rfl dX3_writeInner_72 ?_
    refine g_iconst (pc := 74) (v := 1) K dX3_writeInner_74 (by decide) ?_
    refine g_iadd (pc := 75) K dX3_writeInner_75 ?_
    replace h := Option.bind_eq_some_iff.mp h
    obtain ⟨a6, rfl, h⟩ := h
    replace h := Option.bind_eq_some_iff.mp h
    obtain ⟨r8, e7, h⟩ := h
    refine g_qald (pc := 76) K e7 dX3_writeInner_76 ?_
    replace h := Option.bind_eq_some_iff.mp h
    obtain ⟨a9, rfl, h⟩ := h
    replace h := Option.bind_eq_some_iff.mp h
    obtain ⟨x10, e11, h⟩ := h
    refine g_getI (pc := 77) K cl_1 hin_X1 (k := 5) (by decide) tb_48 rfl e11 dX3_writeInner_77 ?_
    refine g_i2l (pc := 80) K dX3_writeInner_80 ?_
    refine g_goto (pc := 81) (tgt := 86) K dX3_writeInner_81 (by decide) ?_
    refine g_sub K [1, 2, 3, 4, 5, 6, 7, 0] rfl ?_
    exact w_X3_writeInner_86 hm K hT hrec22  _ _ _ _ _ _ _ _ _ _ _ _ h (by omega) (by omega)
def B_X3_writeInner_22 (recm : Nat → Nat → Int64 → Int64 → Int32 → sw_S → Option sw_S) (rec22 : Nat → Nat → Int64 → Int64 → Int32 → Int32 → sw_S → Option sw_S) (v0 : Nat) (v1 : Nat) (v2 : Int64) (v4 : Int64) (v6 : Int32) (v7 : Int32) (σ : sw_S) : Option sw_S :=
  (sw_gI 1 v1 4 σ).bind fun x1 =>
  (if x1 ≤ v7 then
  some σ
  else
  (sw_gR 1 v1 3 σ).bind fun r4 =>
  r4.bind fun a6 =>
  (sw_ql a6 v7 σ).bind fun r8 =>
  (if v7 = 0 then
  b_X3_writeInner_55 recm rec22 v0 v1 v2 v4 v6 v7 r8 v2 σ
  else
  r8.bind fun a10 =>
  (sw_gI 1 a10 5 σ).bind fun x11 =>
  b_X3_writeInner_55 recm rec22 v0 v1 v2 v4 v6 v7 (some a10) ((Int32.toInt64 x11)) σ))
set_option maxHeartbeats 4000000 in
set_option maxRecDepth 100000 in
theorem wB_X3_writeInner_22 {p : Program} {l : Launch} {e : Env} {s : State} {m : MethodId} {args : Array Value} {below : List Frame} {meth : Method} {c : Code} {Q : State → Prop} {A : Nat → Prop} {D : va_G} {cT : Nat → ClassId} {σ' : sw_S}  {recm : Nat → Nat → Int64 → Int64 → Int32 → sw_S → Option sw_S} {fr0 lo0 : Nat} (hm : ∀ (p0 : Nat) (q1 : Nat) (q2 : Int64) (q3 : Int64) (q4 : Int32) (σ : sw_S) {σ' : sw_S}, recm p0 q1 q2 q3 q4 σ = some σ' → sw_M l D cT yX3_write cX3_write 7 none fr0 lo0 0 0 σ [P_ (some p0), P_ (some q1), J_ q2, J_ q3, I_ q4] none σ')  (K : sw_C p s m args c cX3_writeInner 13 RX3 A D cT) (hT : sw_Tv cX3_writeInner p l e (sw_R (fr0 + 2) 0 0 (lo0 + 48)) s m args below meth c Q 13 A D cT 0 0 σ') {rec22 : Nat → Nat → Int64 → Int64 → Int32 → Int32 → sw_S → Option sw_S} (hrec22 : ∀ (v0 : Nat) (v1 : Nat) (v2 : Int64) (v4 : Int64) (v6 : Int32) (v7 : Int32) (σ : sw_S) (ce sl : Nat), rec22 v0 v1 v2 v4 v6 v7 σ = some σ' → ce + (0) ≤ 0 → sl + (0) ≤ 0 → sw_G p l e (sw_R (fr0 + 2) 0 0 (lo0 + 48)) s m args below meth c Q 13 A D cT σ ce sl 22 [(0, P_ (some v0)), (1, P_ (some v1)), (2, J_ v2), (4, J_ v4), (6, I_ v6), (7, I_ v7)] []) (v0 : Nat) (v1 : Nat) (v2 : Int64) (v4 : Int64) (v6 : Int32) (v7 : Int32) (σ : sw_S)  (ce sl : Nat) (h : B_X3_writeInner_22 recm rec22 v0 v1 v2 v4 v6 v7 σ = some σ') (hce : ce + (0) ≤ 0) (hsl : sl + (0) ≤ 0) : sw_G p l e (sw_R (fr0 + 2) 0 0 (lo0 + 48)) s m args below meth c Q 13 A D cT σ ce sl 22 [(0, P_ (some v0)), (1, P_ (some v1)), (2, J_ v2), (4, J_ v4), (6, I_ v6), (7, I_ v7)] [] := by
  unfold B_X3_writeInner_22 at h
  refine g_iload (pc := 22) K 5 rfl dX3_writeInner_22 ?_
  refine g_aload_n (pc := 24) K 1 rfl rfl dX3_writeInner_24 ?_
  replace h := Option.bind_eq_some_iff.mp h
  obtain ⟨x1, e2, h⟩ := h
  refine g_getI (pc := 25) K cl_1 hin_X1 (k := 4) (by decide) tb_45 rfl e2 dX3_writeInner_25 ?_
  refine g_icmp_ge (pc := 28) K 131 dX3_writeInner_28 (by decide) (fun c3 => ?_) (fun c3 => ?_)
  · replace h := (if_pos c3).symm.trans h
    cases h
    exact hT _ _ 131 _ (by omega) (by omega) dX3_writeInner_131
  · replace h := (if_neg c3).symm.trans h
    refine g_aload_n (pc := 31) K 1 rfl rfl dX3_writeInner_31 ?_
    replace h := Option.bind_eq_some_iff.mp h
    obtain ⟨r4, e5, h⟩ := h
    refine g_getR (pc := 32) K cl_1 hin_X1 (k := 3) (by decide) tb_42 rfl e5 dX3_writeInner_32 ?_
    refine g_iload (pc := 35) K 5 rfl dX3_writeInner_35 ?_
    replace h := Option.bind_eq_some_iff.mp h
    obtain ⟨a6, rfl, h⟩ := h
    replace h := Option.bind_eq_some_iff.mp h
    obtain ⟨r8, e7, h⟩ := h
    refine g_qald (pc := 37) K e7 dX3_writeInner_37 ?_
    refine g_astore (pc := 38) K [(8, P_ r8), (0, P_ (some v0)), (1, P_ (some v1)), (2, J_ v2), (4, J_ v4), (6, I_ v6), (7, I_ v7)] (by decide) rfl dX3_writeInner_38 ?_
    refine g_iload (pc := 40) K 6 rfl dX3_writeInner_40 ?_
    refine g_if_ne (pc := 42) K 49 dX3_writeInner_42 (by decide) (fun c9 => ?_) (fun c9 => ?_)
    · replace h := (if_pos c9).symm.trans h
      refine g_lload_n (pc := 45) K 3 rfl rfl dX3_writeInner_45 ?_
      refine g_goto (pc := 46) (tgt := 55) K dX3_writeInner_46 (by decide) ?_
      refine g_sub K [1, 2, 3, 4, 5, 6, 0] rfl ?_
      exact w_X3_writeInner_55 hm K hT hrec22  _ _ _ _ _ _ _ _ _ _ _ h (by omega) (by omega)
    · replace h := (if_neg c9).symm.trans h
      refine g_aload (pc := 49) K 0 rfl dX3_writeInner_49 ?_
      replace h := Option.bind_eq_some_iff.mp h
      obtain ⟨a10, rfl, h⟩ := h
      replace h := Option.bind_eq_some_iff.mp h
      obtain ⟨x11, e12, h⟩ := h
      refine g_getI (pc := 51) K cl_1 hin_X1 (k := 5) (by decide) tb_48 rfl e12 dX3_writeInner_51 ?_
      refine g_i2l (pc := 54) K dX3_writeInner_54 ?_
      refine g_sub K [1, 2, 3, 4, 5, 6, 0] rfl ?_
      exact w_X3_writeInner_55 hm K hT hrec22  _ _ _ _ _ _ _ _ _ _ _ h (by omega) (by omega)
def b_X3_writeInner_22 (recm : Nat → Nat → Int64 → Int64 → Int32 → sw_S → Option sw_S) : Nat → Nat → Nat → Int64 → Int64 → Int32 → Int32 → sw_S → Option sw_S
  | 0 => fun _ _ _ _ _ _ _ => none
  | n + 1 => B_X3_writeInner_22 recm (b_X3_writeInner_22 recm n)
theorem wl_X3_writeInner_22 {p : Program} {l : Launch} {e : Env} {s : State} {m : MethodId} {args : Array Value} {below : List Frame} {meth : Method} {c : Code} {Q : State → Prop} {A : Nat → Prop} {D : va_G} {cT : Nat → ClassId} {σ' : sw_S}  {recm : Nat → Nat → Int64 → Int64 → Int32 → sw_S → Option sw_S} {fr0 lo0 : Nat} (hm : ∀ (p0 : Nat) (q1 : Nat) (q2 : Int64) (q3 : Int64) (q4 : Int32) (σ : sw_S) {σ' : sw_S}, recm p0 q1 q2 q3 q4 σ = some σ' → sw_M l D cT yX3_write cX3_write 7 none fr0 lo0 0 0 σ [P_ (some p0), P_ (some q1), J_ q2, J_ q3, I_ q4] none σ')  (K : sw_C p s m args c cX3_writeInner 13 RX3 A D cT) (hT : sw_Tv cX3_writeInner p l e (sw_R (fr0 + 2) 0 0 (lo0 + 48)) s m args below meth c Q 13 A D cT 0 0 σ') : ∀ (n : Nat) (v0 : Nat) (v1 : Nat) (v2 : Int64) (v4 : Int64) (v6 : Int32) (v7 : Int32) (σ : sw_S) (ce sl : Nat), b_X3_writeInner_22 recm n v0 v1 v2 v4 v6 v7 σ = some σ' → ce + (0) ≤ 0 → sl + (0) ≤ 0 → sw_G p l e (sw_R (fr0 + 2) 0 0 (lo0 + 48)) s m args below meth c Q 13 A D cT σ ce sl 22 [(0, P_ (some v0)), (1, P_ (some v1)), (2, J_ v2), (4, J_ v4), (6, I_ v6), (7, I_ v7)] [] := by
  intro n
  induction n with
  | zero =>
    intro v0 v1 v2 v4 v6 v7 σ ce sl h
    exact absurd (show none = some σ' from h) (by simp)
  | succ n ih =>
    intro v0 v1 v2 v4 v6 v7 σ ce sl h hce hsl
    exact wB_X3_writeInner_22 hm K hT (fun _ _ _ _ _ _ _ _ _ h h1 h2 => ih _ _ _ _ _ _ _ _ _ h h1 h2) _ _ _ _ _ _ _ _ _ h hce hsl
def f_X3_writeInner (recm : Nat → Nat → Int64 → Int64 → Int32 → sw_S → Option sw_S) (p0 : Nat) (q1 : Nat) (q2 : Int64) (q3 : Int64) (q4 : Int32) (σ : sw_S) : Option sw_S :=
  (sw_gR 3 p0 0 σ).bind fun r1 =>
  r1.bind fun a3 =>
  (sw_ob 2 a3 σ).bind fun f4 =>
  (f_X2_append a3 2 σ).bind fun σ7 =>
  (sw_gR 3 p0 0 σ7).bind fun r8 =>
  (sw_gI 1 q1 4 σ7).bind fun x10 =>
  r8.bind fun a12 =>
  (sw_ob 2 a12 σ7).bind fun f13 =>
  (f_X2_append a12 x10 σ7).bind fun σ16 =>
  b_X3_writeInner_22 recm 1000 p0 q1 q2 q3 q4 0 σ16
set_option maxHeartbeats 4000000 in
set_option maxRecDepth 100000 in
theorem c_X3_writeInner {l : Launch} {D : va_G} {cT : Nat → ClassId} (recm : Nat → Nat → Int64 → Int64 → Int32 → sw_S → Option sw_S) {fr0 lo0 : Nat} (hm : ∀ (p0 : Nat) (q1 : Nat) (q2 : Int64) (q3 : Int64) (q4 : Int32) (σ : sw_S) {σ' : sw_S}, recm p0 q1 q2 q3 q4 σ = some σ' → sw_M l D cT yX3_write cX3_write 7 none fr0 lo0 0 0 σ [P_ (some p0), P_ (some q1), J_ q2, J_ q3, I_ q4] none σ') (p0 : Nat) (q1 : Nat) (q2 : Int64) (q3 : Int64) (q4 : Int32) (σ : sw_S) {σ' : sw_S} (h : f_X3_writeInner recm p0 q1 q2 q3 q4 σ = some σ') : sw_M l D cT yX3_writeInner cX3_writeInner 13 none (fr0 + 2) (lo0 + 48) 0 0 σ [P_ (some p0), P_ (some q1), J_ q2, J_ q3, I_ q4] none σ' := by
  refine sw_met_v (by decide) (Nat.le_of_ble_eq_true rfl) (fun p e s m args below meth c A Q K hnm hT => ?_)
  have hce : 0 + 0 ≤ 0 := Nat.le_of_ble_eq_true rfl
  have hsl : 0 + 0 ≤ 0 := Nat.le_of_ble_eq_true rfl
  unfold f_X3_writeInner at h
  change sw_G p l e (sw_R (fr0 + 2) 0 0 (lo0 + 48)) s m args below meth c Q 13 A D cT σ 0 0 0 [(0, P_ (some p0)), (1, P_ (some q1)), (2, J_ q2), (4, J_ q3), (6, I_ q4)] []
  refine g_aload_n (pc := 0) K 0 rfl rfl dX3_writeInner_0 ?_
  replace h := Option.bind_eq_some_iff.mp h
  obtain ⟨r1, e2, h⟩ := h
  refine g_getR (pc := 1) K cl_3 hin_X3 (k := 0) (by decide) tb_336 rfl e2 dX3_writeInner_1 ?_
  refine g_iconst (pc := 4) (v := 2) K dX3_writeInner_4 (by decide) ?_
  replace h := Option.bind_eq_some_iff.mp h
  obtain ⟨a3, rfl, h⟩ := h
  replace h := Option.bind_eq_some_iff.mp h
  obtain ⟨f4, e5, h⟩ := h
  replace h := Option.bind_eq_some_iff.mp h
  obtain ⟨σ7, e6, h⟩ := h
  refine g_callV (pc := 5) (st := []) K [I_ 2] (c_X2_append _ _ _ _ _ _ e6) e5 cl_2 rfl tb_356 tb_353 tb_4 tb_354 tb_355 hd_X2_append ⟨by show _ ≤ fr0 + 2; omega, by show _ ≤ lo0 + 48; omega⟩ rfl (sw_rm (Nat.le_of_ble_eq_true rfl)) ⟨by show _ ≤ 0; omega, by show _ ≤ 0; omega⟩ dX3_writeInner_5 ?_
  refine g_aload_n (pc := 8) K 0 rfl rfl dX3_writeInner_8 ?_
  replace h := Option.bind_eq_some_iff.mp h
  obtain ⟨r8, e9, h⟩ := h
  refine g_getR (pc := 9) K cl_3 hin_X3 (k := 0) (by decide) tb_336 rfl e9 dX3_writeInner_9 ?_
  refine g_aload_n (pc := 12) K 1 rfl rfl dX3_writeInner_12 ?_
  replace h := Option.bind_eq_some_iff.mp h
  obtain ⟨x10, e11, h⟩ := h
  refine g_getI (pc := 13) K cl_1 hin_X1 (k := 4) (by decide) tb_45 rfl e11 dX3_writeInner_13 ?_
  replace h := Option.bind_eq_some_iff.mp h
  obtain ⟨a12, rfl, h⟩ := h
  replace h := Option.bind_eq_some_iff.mp h
  obtain ⟨f13, e14, h⟩ := h
  replace h := Option.bind_eq_some_iff.mp h
  obtain ⟨σ16, e15, h⟩ := h
  refine g_callV (pc := 16) (st := []) K [I_ x10] (c_X2_append _ _ _ _ _ _ e15) e14 cl_2 rfl tb_356 tb_353 tb_4 tb_354 tb_355 hd_X2_append ⟨by show _ ≤ fr0 + 2; omega, by show _ ≤ lo0 + 48; omega⟩ rfl (sw_rm (Nat.le_of_ble_eq_true rfl)) ⟨by show _ ≤ 0; omega, by show _ ≤ 0; omega⟩ dX3_writeInner_16 ?_
  refine g_iconst (pc := 19) (v := 0) K dX3_writeInner_19 (by decide) ?_
  refine g_istore (pc := 20) K [(7, I_ 0), (0, P_ (some p0)), (1, P_ (some q1)), (2, J_ q2), (4, J_ q3), (6, I_ q4)] (by decide) rfl dX3_writeInner_20 ?_
  refine g_sub K [1, 2, 3, 4, 5, 0] rfl ?_
  exact wl_X3_writeInner_22 hm K hT  1000 _ _ _ _ _ _ _ _ _ h (by omega) (by omega)

def b_X3_write_32 (recm : Nat → Nat → Int64 → Int64 → Int32 → sw_S → Option sw_S) (σ : sw_S) : Option sw_S :=
  some σ
set_option maxHeartbeats 4000000 in
set_option maxRecDepth 100000 in
theorem w_X3_write_32 {p : Program} {l : Launch} {e : Env} {s : State} {m : MethodId} {args : Array Value} {below : List Frame} {meth : Method} {c : Code} {Q : State → Prop} {A : Nat → Prop} {D : va_G} {cT : Nat → ClassId} {σ' : sw_S}  {recm : Nat → Nat → Int64 → Int64 → Int32 → sw_S → Option sw_S} {fr0 lo0 : Nat} (hm : ∀ (p0 : Nat) (q1 : Nat) (q2 : Int64) (q3 : Int64) (q4 : Int32) (σ : sw_S) {σ' : sw_S}, recm p0 q1 q2 q3 q4 σ = some σ' → sw_M l D cT yX3_write cX3_write 7 none fr0 lo0 0 0 σ [P_ (some p0), P_ (some q1), J_ q2, J_ q3, I_ q4] none σ')  (K : sw_C p s m args c cX3_write 7 RX3 A D cT) (hT : sw_Tv cX3_write p l e (sw_R (fr0 + 3) 0 0 (lo0 + 80)) s m args below meth c Q 7 A D cT 0 0 σ') (σ : sw_S)  (ce sl : Nat) (h : b_X3_write_32 recm σ = some σ') (hce : ce + (0) ≤ 0) (hsl : sl + (0) ≤ 0) : sw_G p l e (sw_R (fr0 + 3) 0 0 (lo0 + 80)) s m args below meth c Q 7 A D cT σ ce sl 32 [] [] := by
  unfold b_X3_write_32 at h
  cases h
  exact hT _ _ 32 _ (by omega) (by omega) dX3_write_32
def fr_X3_write (recm : Nat → Nat → Int64 → Int64 → Int32 → sw_S → Option sw_S) (p0 : Nat) (q1 : Nat) (q2 : Int64) (q3 : Int64) (q4 : Int32) (σ : sw_S) : Option sw_S :=
  (sw_gI 1 q1 0 σ).bind fun x1 =>
  (if x1 = 0 then
  (if 6 ≤ q4 then
  b_X3_write_32 recm σ
  else
  (sw_ob 3 p0 σ).bind fun f5 =>
  (f_X3_writeInner recm p0 q1 q2 q3 q4 σ).bind fun σ8 =>
  b_X3_write_32 recm σ8)
  else
  (sw_ob 3 p0 σ).bind fun f9 =>
  (f_X3_writeLeaf p0 q1 σ).bind fun σ12 =>
  b_X3_write_32 recm σ12)
set_option maxHeartbeats 4000000 in
set_option maxRecDepth 100000 in
theorem cr_X3_write {l : Launch} {D : va_G} {cT : Nat → ClassId} (recm : Nat → Nat → Int64 → Int64 → Int32 → sw_S → Option sw_S) {fr0 lo0 : Nat} (hm : ∀ (p0 : Nat) (q1 : Nat) (q2 : Int64) (q3 : Int64) (q4 : Int32) (σ : sw_S) {σ' : sw_S}, recm p0 q1 q2 q3 q4 σ = some σ' → sw_M l D cT yX3_write cX3_write 7 none fr0 lo0 0 0 σ [P_ (some p0), P_ (some q1), J_ q2, J_ q3, I_ q4] none σ') (p0 : Nat) (q1 : Nat) (q2 : Int64) (q3 : Int64) (q4 : Int32) (σ : sw_S) {σ' : sw_S} (h : fr_X3_write recm p0 q1 q2 q3 q4 σ = some σ') : sw_M l D cT yX3_write cX3_write 7 none (fr0 + 3) (lo0 + 80) 0 0 σ [P_ (some p0), P_ (some q1), J_ q2, J_ q3, I_ q4] none σ' := by
  refine sw_met_v (by decide) (Nat.le_of_ble_eq_true rfl) (fun p e s m args below meth c A Q K hnm hT => ?_)
  have hce : 0 + 0 ≤ 0 := Nat.le_of_ble_eq_true rfl
  have hsl : 0 + 0 ≤ 0 := Nat.le_of_ble_eq_true rfl
  unfold fr_X3_write at h
  change sw_G p l e (sw_R (fr0 + 3) 0 0 (lo0 + 80)) s m args below meth c Q 7 A D cT σ 0 0 0 [(0, P_ (some p0)), (1, P_ (some q1)), (2, J_ q2), (4, J_ q3), (6, I_ q4)] []
  refine g_aload_n (pc := 0) K 1 rfl rfl dX3_write_0 ?_
  replace h := Option.bind_eq_some_iff.mp h
  obtain ⟨x1, e2, h⟩ := h
  refine g_getI (pc := 1) K cl_1 hin_X1 (k := 0) (by decide) tb_33 rfl e2 dX3_write_1 ?_
  refine g_if_eq (pc := 4) K 15 dX3_write_4 (by decide) (fun c3 => ?_) (fun c3 => ?_)
  · replace h := (if_pos c3).symm.trans h
    refine g_iload (pc := 15) K 4 rfl dX3_write_15 ?_
    refine g_bipush (pc := 17) (v := 6) K dX3_write_17 (by decide) ?_
    refine g_icmp_ge (pc := 19) K 32 dX3_write_19 (by decide) (fun c4 => ?_) (fun c4 => ?_)
    · replace h := (if_pos c4).symm.trans h
      refine g_sub K [] rfl ?_
      exact w_X3_write_32 hm K hT   _ _ _ h (by omega) (by omega)
    · replace h := (if_neg c4).symm.trans h
      refine g_aload_n (pc := 22) K 0 rfl rfl dX3_write_22 ?_
      refine g_aload_n (pc := 23) K 1 rfl rfl dX3_write_23 ?_
      refine g_lload_n (pc := 24) K 2 rfl rfl dX3_write_24 ?_
      refine g_lload (pc := 25) K 3 rfl dX3_write_25 ?_
      refine g_iload (pc := 27) K 4 rfl dX3_write_27 ?_
      replace h := Option.bind_eq_some_iff.mp h
      obtain ⟨f5, e6, h⟩ := h
      replace h := Option.bind_eq_some_iff.mp h
      obtain ⟨σ8, e7, h⟩ := h
      refine g_callV (pc := 29) (st := []) K [P_ (some q1), J_ q2, J_ q3, I_ q4] (c_X3_writeInner recm hm _ _ _ _ _ _ e7) e6 cl_3 rfl tb_360 tb_357 tb_8 tb_359 sl_9 hd_X3_writeInner ⟨by show _ ≤ fr0 + 3; omega, by show _ ≤ lo0 + 80; omega⟩ rfl (sw_rm (Nat.le_of_ble_eq_true rfl)) ⟨by show _ ≤ 0; omega, by show _ ≤ 0; omega⟩ dX3_write_29 ?_
      refine g_sub K [] rfl ?_
      exact w_X3_write_32 hm K hT   _ _ _ h (by omega) (by omega)
  · replace h := (if_neg c3).symm.trans h
    refine g_aload_n (pc := 7) K 0 rfl rfl dX3_write_7 ?_
    refine g_aload_n (pc := 8) K 1 rfl rfl dX3_write_8 ?_
    replace h := Option.bind_eq_some_iff.mp h
    obtain ⟨f9, e10, h⟩ := h
    replace h := Option.bind_eq_some_iff.mp h
    obtain ⟨σ12, e11, h⟩ := h
    refine g_callV (pc := 9) (st := []) K [P_ (some q1)] (c_X3_writeLeaf _ _ _ _ _ _ e11) e10 cl_3 rfl tb_352 tb_349 tb_8 tb_351 sl_8 hd_X3_writeLeaf ⟨by show _ ≤ fr0 + 3; omega, by show _ ≤ lo0 + 80; omega⟩ rfl (sw_rm (Nat.le_of_ble_eq_true rfl)) ⟨by show _ ≤ 0; omega, by show _ ≤ 0; omega⟩ dX3_write_9 ?_
    refine g_goto (pc := 12) (tgt := 32) K dX3_write_12 (by decide) ?_
    refine g_sub K [] rfl ?_
    exact w_X3_write_32 hm K hT   _ _ _ h (by omega) (by omega)

def f_X3_write : Nat → Nat → Nat → Int64 → Int64 → Int32 → sw_S → Option sw_S
  | 0 => fun _ _ _ _ _ _ => none
  | d + 1 => fr_X3_write (f_X3_write d)
theorem c_X3_write (l : Launch) (D : va_G) (cT : Nat → ClassId) : ∀ (d : Nat) (p0 : Nat) (q1 : Nat) (q2 : Int64) (q3 : Int64) (q4 : Int32) (σ : sw_S) {σ' : sw_S}, f_X3_write d p0 q1 q2 q3 q4 σ = some σ' → sw_M l D cT yX3_write cX3_write 7 none (d * 3) (d * 80) 0 0 σ [P_ (some p0), P_ (some q1), J_ q2, J_ q3, I_ q4] none σ' := by
  intro d
  induction d with
  | zero =>
    intro p0 q1 q2 q3 q4 σ σ' h
    exact absurd (show none = _ from h) (by simp)
  | succ d ih =>
    intro p0 q1 q2 q3 q4 σ σ' h
    have hq := cr_X3_write (f_X3_write d) (fun p0 q1 q2 q3 q4 σ σ' h => ih p0 q1 q2 q3 q4 σ h) p0 q1 q2 q3 q4 σ h
    rw [show d * 3 + 3 = (d + 1) * 3 by omega, show d * 80 + 80 = (d + 1) * 80 by omega] at hq
    exact hq
