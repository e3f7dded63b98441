def b_X8_read_68 (t0 : Int32) (σ : sw_S) : Option (Int32 × sw_S) :=
  (sw_z t0).bind fun z1 =>
  some (z1, σ)
set_option maxHeartbeats 4000000 in
set_option maxRecDepth 100000 in
theorem w_X8_read_68 {p : Program} {l : Launch} {e : Env} {s : State} {m : MethodId} {args : Array Value} {below : List Frame} {meth : Method} {c : Code} {Q : State → Prop} {A : Nat → Prop} {D : va_G} {cT : Nat → ClassId} {r : Int32}  {σ' : sw_S}  (K : sw_C p s m args c cX8_read 2 RX8 A D cT) (hT : sw_Tz cX8_read p l e (sw_R 3 0 0 71) s m args below meth c Q 2 A D cT 0 0 σ' r) (t0 : Int32) (σ : sw_S)  (ce sl : Nat) (h : b_X8_read_68 t0 σ = some (r, σ')) (hce : ce + (0) ≤ 0) (hsl : sl + (0) ≤ 0) : sw_G p l e (sw_R 3 0 0 71) s m args below meth c Q 2 A D cT σ ce sl 68 [] [I_ t0] := by
  unfold b_X8_read_68 at h
  replace h := Option.bind_eq_some_iff.mp h
  obtain ⟨z1, e2, h⟩ := h
  obtain ⟨rfl, e3⟩ := sw_z_eq e2
  cases h
  exact hT _ _ 68 _ (by omega) (by omega) e3.1 dX8_read_68
def B_X8_read_30 (rec30 : Nat → Int32 → sw_S → Option (Int32 × sw_S)) (v0 : Nat) (v1 : Int32) (σ : sw_S) : Option (Int32 × sw_S) :=
  (if v1 < 0 then
  (sw_gI 8 v0 26 σ).bind fun x2 =>
  (sw_gI 8 v0 12 σ).bind fun x4 =>
  (if x2 = x4 then
  b_X8_read_68 1 σ
  else
  b_X8_read_68 0 σ)
  else
  (sw_ob 8 v0 σ).bind fun f7 =>
  sw_b2 (f_X8_readNode v0 v1 σ) fun x10 σ11 =>
  (if x10 = 0 then
  some (0, σ11)
  else
  (sw_ob 8 v0 σ11).bind fun f13 =>
  (f_X8_waiting v0 σ11).bind fun x16 =>
  rec30 v0 x16 σ11))
set_option maxHeartbeats 4000000 in
set_option maxRecDepth 100000 in
theorem wB_X8_read_30 {p : Program} {l : Launch} {e : Env} {s : State} {m : MethodId} {args : Array Value} {below : List Frame} {meth : Method} {c : Code} {Q : State → Prop} {A : Nat → Prop} {D : va_G} {cT : Nat → ClassId} {r : Int32}  {σ' : sw_S}  (K : sw_C p s m args c cX8_read 2 RX8 A D cT) (hT : sw_Tz cX8_read p l e (sw_R 3 0 0 71) s m args below meth c Q 2 A D cT 0 0 σ' r) {rec30 : Nat → Int32 → sw_S → Option (Int32 × sw_S)} (hrec30 : ∀ (v0 : Nat) (v1 : Int32) (σ : sw_S) (ce sl : Nat), rec30 v0 v1 σ = some (r, σ') → ce + (0) ≤ 0 → sl + (0) ≤ 0 → sw_G p l e (sw_R 3 0 0 71) s m args below meth c Q 2 A D cT σ ce sl 30 [(0, P_ (some v0)), (1, I_ v1)] []) (v0 : Nat) (v1 : Int32) (σ : sw_S)  (ce sl : Nat) (h : B_X8_read_30 rec30 v0 v1 σ = some (r, σ')) (hce : ce + (0) ≤ 0) (hsl : sl + (0) ≤ 0) : sw_G p l e (sw_R 3 0 0 71) s m args below meth c Q 2 A D cT σ ce sl 30 [(0, P_ (some v0)), (1, I_ v1)] [] := by
  unfold B_X8_read_30 at h
  refine g_iload_n (pc := 30) K 1 rfl rfl dX8_read_30 ?_
  refine g_if_lt (pc := 31) K 52 dX8_read_31 (by decide) (fun c1 => ?_) (fun c1 => ?_)
  · replace h := (if_pos c1).symm.trans h
    refine g_aload_n (pc := 52) K 0 rfl rfl dX8_read_52 ?_
    replace h := Option.bind_eq_some_iff.mp h
    obtain ⟨x2, e3, h⟩ := h
    refine g_getI (pc := 53) K cl_8 hin_X8 (k := 26) (by decide) tb_544 rfl e3 dX8_read_53 ?_
    refine g_aload_n (pc := 56) K 0 rfl rfl dX8_read_56 ?_
    replace h := Option.bind_eq_some_iff.mp h
    obtain ⟨x4, e5, h⟩ := h
    refine g_getI (pc := 57) K cl_8 hin_X8 (k := 12) (by decide) tb_530 rfl e5 dX8_read_57 ?_
    refine g_icmp_ne (pc := 60) K 67 dX8_read_60 (by decide) (fun c6 => ?_) (fun c6 => ?_)
    · replace h := (if_pos c6).symm.trans h
      refine g_iconst (pc := 63) (v := 1) K dX8_read_63 (by decide) ?_
      refine g_goto (pc := 64) (tgt := 68) K dX8_read_64 (by decide) ?_
      refine g_sub K [] rfl ?_
      exact w_X8_read_68 K hT  _ _ _ _ h (by omega) (by omega)
    · replace h := (if_neg c6).symm.trans h
      refine g_iconst (pc := 67) (v := 0) K dX8_read_67 (by decide) ?_
      refine g_sub K [] rfl ?_
      exact w_X8_read_68 K hT  _ _ _ _ h (by omega) (by omega)
  · replace h := (if_neg c1).symm.trans h
    refine g_aload_n (pc := 34) K 0 rfl rfl dX8_read_34 ?_
    refine g_iload_n (pc := 35) K 1 rfl rfl dX8_read_35 ?_
    replace h := Option.bind_eq_some_iff.mp h
    obtain ⟨f7, e8, h⟩ := h
    replace h := sw_b2_eq h
    obtain ⟨x10, σ11, e9, h⟩ := h
    refine g_callV (pc := 36) (st := []) K [I_ v1] (c_X8_readNode _ _ _ _ _ _ e9) e8 cl_8 rfl tb_728 tb_725 tb_7 tb_727 sl_41 hd_X8_readNode ⟨Nat.le_of_ble_eq_true rfl, Nat.le_of_ble_eq_true rfl⟩ rfl (sw_rm (Nat.le_of_ble_eq_true rfl)) ⟨by show _ ≤ 0; omega, by show _ ≤ 0; omega⟩ dX8_read_36 ?_
    refine g_if_ne (pc := 39) K 44 dX8_read_39 (by decide) (fun c12 => ?_) (fun c12 => ?_)
    · replace h := (if_pos c12).symm.trans h
      refine g_iconst (pc := 42) (v := 0) K dX8_read_42 (by decide) ?_
      cases h
      exact hT _ _ 43 _ (by omega) (by omega) rfl dX8_read_43
    · replace h := (if_neg c12).symm.trans h
      refine g_aload_n (pc := 44) K 0 rfl rfl dX8_read_44 ?_
      replace h := Option.bind_eq_some_iff.mp h
      obtain ⟨f13, e14, h⟩ := h
      replace h := Option.bind_eq_some_iff.mp h
      obtain ⟨x16, e15, h⟩ := h
      refine g_callV (pc := 45) (st := []) K [] (c_X8_waiting _ _ _ _ _ e15) e14 cl_8 rfl tb_752 tb_749 tb_7 tb_751 sl_47 hd_X8_waiting ⟨Nat.le_of_ble_eq_true rfl, Nat.le_of_ble_eq_true rfl⟩ rfl (sw_rm (Nat.le_of_ble_eq_true rfl)) ⟨by show _ ≤ 0; omega, by show _ ≤ 0; omega⟩ dX8_read_45 ?_
      refine g_istore_n (pc := 48) K [(1, I_ x16), (0, P_ (some v0))] rfl (by decide) rfl dX8_read_48 ?_
      refine g_goto (pc := 49) (tgt := 30) K dX8_read_49 (by decide) ?_
      refine g_sub K [1, 0] rfl ?_
      exact hrec30 _ _ _ _ _ h (by omega) (by omega)
def b_X8_read_30  : Nat → Nat → Int32 → sw_S → Option (Int32 × sw_S)
  | 0 => fun _ _ _ => none
  | n + 1 => B_X8_read_30 (b_X8_read_30  n)
theorem wl_X8_read_30 {p : Program} {l : Launch} {e : Env} {s : State} {m : MethodId} {args : Array Value} {below : List Frame} {meth : Method} {c : Code} {Q : State → Prop} {A : Nat → Prop} {D : va_G} {cT : Nat → ClassId} {r : Int32}  {σ' : sw_S}  (K : sw_C p s m args c cX8_read 2 RX8 A D cT) (hT : sw_Tz cX8_read p l e (sw_R 3 0 0 71) s m args below meth c Q 2 A D cT 0 0 σ' r) : ∀ (n : Nat) (v0 : Nat) (v1 : Int32) (σ : sw_S) (ce sl : Nat), b_X8_read_30  n v0 v1 σ = some (r, σ') → ce + (0) ≤ 0 → sl + (0) ≤ 0 → sw_G p l e (sw_R 3 0 0 71) s m args below meth c Q 2 A D cT σ ce sl 30 [(0, P_ (some v0)), (1, I_ v1)] [] := by
  intro n
  induction n with
  | zero =>
    intro v0 v1 σ ce sl h
    exact absurd (show none = some (r, σ') from h) (by simp)
  | succ n ih =>
    intro v0 v1 σ ce sl h hce hsl
    exact wB_X8_read_30 K hT (fun _ _ _ _ _ h h1 h2 => ih _ _ _ _ _ h h1 h2) _ _ _ _ _ h hce hsl
def f_X8_read (p0 : Nat) (σ : sw_S) : Option (Int32 × sw_S) :=
  (sw_pt 8 p0 26 (.int 0) σ).bind fun σ1 =>
  (sw_pt 8 p0 16 (.int 0) σ1).bind fun σ3 =>
  (sw_z 0).bind fun z5 =>
  (sw_pt 8 p0 27 (.int z5) σ3).bind fun σ8 =>
  (sw_ob 8 p0 σ8).bind fun f10 =>
  sw_b2 (f_X8_readNode p0 0 σ8) fun x13 σ14 =>
  (if x13 = 0 then
  some (0, σ14)
  else
  (sw_ob 8 p0 σ14).bind fun f16 =>
  (f_X8_waiting p0 σ14).bind fun x19 =>
  b_X8_read_30 1000 p0 x19 σ14)
set_option maxHeartbeats 4000000 in
set_option maxRecDepth 100000 in
theorem c_X8_read  (l : Launch) (D : va_G) (cT : Nat → ClassId) (p0 : Nat) (σ : sw_S) {r : Int32} {σ' : sw_S} (h : f_X8_read p0 σ = some (r, σ')) : sw_M l D cT yX8_read cX8_read 2 (some .boolean) 3 71 0 0 σ [P_ (some p0)] (some (I_ r)) σ' := by
  refine sw_met_z (by decide) (Nat.le_of_ble_eq_true rfl) (fun p e s m args below meth c A Q K hnm hT => ?_)
  have hce : 0 + 0 ≤ 0 := Nat.le_of_ble_eq_true rfl
  have hsl : 0 + 0 ≤ 0 := Nat.le_of_ble_eq_true rfl
  unfold f_X8_read at h
  change sw_G p l e (sw_R 3 0 0 71) s m args below meth c Q 2 A D cT σ 0 0 0 [(0, P_ (some p0))] []
  refine g_aload_n (pc := 0) K 0 rfl rfl dX8_read_0 ?_
  refine g_iconst (pc := 1) (v := 0) K dX8_read_1 (by decide) ?_
  replace h := Option.bind_eq_some_iff.mp h
  obtain ⟨σ1, e2, h⟩ := h
  refine g_put (pc := 2) K cl_8 hin_X8 (k := 26) (by decide) tb_544 rfl tyX8 tyX8_ok nmX8 (Or.inl rfl) rfl rfl e2 dX8_read_2 ?_
  refine g_aload_n (pc := 5) K 0 rfl rfl dX8_read_5 ?_
  refine g_iconst (pc := 6) (v := 0) K dX8_read_6 (by decide) ?_
  replace h := Option.bind_eq_some_iff.mp h
  obtain ⟨σ3, e4, h⟩ := h
  refine g_put (pc := 7) K cl_8 hin_X8 (k := 16) (by decide) tb_534 rfl tyX8 tyX8_ok nmX8 (Or.inl rfl) rfl rfl e4 dX8_read_7 ?_
  refine g_aload_n (pc := 10) K 0 rfl rfl dX8_read_10 ?_
  refine g_iconst (pc := 11) (v := 0) K dX8_read_11 (by decide) ?_
  replace h := Option.bind_eq_some_iff.mp h
  obtain ⟨z5, e6, h⟩ := h
  obtain ⟨rfl, e7⟩ := sw_z_eq e6
  replace h := Option.bind_eq_some_iff.mp h
  obtain ⟨σ8, e9, h⟩ := h
  refine g_put (pc := 12) K cl_8 hin_X8 (k := 27) (by decide) tb_545 rfl tyX8 tyX8_ok nmX8 (Or.inl rfl) e7.1 e7.2 e9 dX8_read_12 ?_
  refine g_aload_n (pc := 15) K 0 rfl rfl dX8_read_15 ?_
  refine g_iconst (pc := 16) (v := 0) K dX8_read_16 (by decide) ?_
  replace h := Option.bind_eq_some_iff.mp h
  obtain ⟨f10, e11, h⟩ := h
  replace h := sw_b2_eq h
  obtain ⟨x13, σ14, e12, h⟩ := h
  refine g_callV (pc := 17) (st := []) K [I_ 0] (c_X8_readNode _ _ _ _ _ _ e12) e11 cl_8 rfl tb_728 tb_725 tb_7 tb_727 sl_41 hd_X8_readNode ⟨Nat.le_of_ble_eq_true rfl, Nat.le_of_ble_eq_true rfl⟩ rfl (sw_rm (Nat.le_of_ble_eq_true rfl)) ⟨by show _ ≤ 0; omega, by show _ ≤ 0; omega⟩ dX8_read_17 ?_
  refine g_if_ne (pc := 20) K 25 dX8_read_20 (by decide) (fun c15 => ?_) (fun c15 => ?_)
  · replace h := (if_pos c15).symm.trans h
    refine g_iconst (pc := 23) (v := 0) K dX8_read_23 (by decide) ?_
    cases h
    exact hT _ _ 24 _ (by omega) (by omega) rfl dX8_read_24
  · replace h := (if_neg c15).symm.trans h
    refine g_aload_n (pc := 25) K 0 rfl rfl dX8_read_25 ?_
    replace h := Option.bind_eq_some_iff.mp h
    obtain ⟨f16, e17, h⟩ := h
    replace h := Option.bind_eq_some_iff.mp h
    obtain ⟨x19, e18, h⟩ := h
    refine g_callV (pc := 26) (st := []) K [] (c_X8_waiting _ _ _ _ _ e18) e17 cl_8 rfl tb_752 tb_749 tb_7 tb_751 sl_47 hd_X8_waiting ⟨Nat.le_of_ble_eq_true rfl, Nat.le_of_ble_eq_true rfl⟩ rfl (sw_rm (Nat.le_of_ble_eq_true rfl)) ⟨by show _ ≤ 0; omega, by show _ ≤ 0; omega⟩ dX8_read_26 ?_
    refine g_istore_n (pc := 29) K [(1, I_ x19), (0, P_ (some p0))] rfl (by decide) rfl dX8_read_29 ?_
    refine g_sub K [1, 0] rfl ?_
    exact wl_X8_read_30 K hT  1000 _ _ _ _ _ h (by omega) (by omega)

def b_X8_sumInner_106 (rec40 : Nat → Int32 → Int32 → Int32 → sw_S → Option sw_S) (v0 : Nat) (v1 : Int32) (v2 : Int32) (v3 : Int32) (σ : sw_S) : Option sw_S :=
  rec40 v0 v1 v2 ((v3 + 1)) σ
set_option maxHeartbeats 4000000 in
set_option maxRecDepth 100000 in
theorem w_X8_sumInner_106 {p : Program} {l : Launch} {e : Env} {s : State} {m : MethodId} {args : Array Value} {below : List Frame} {meth : Method} {c : Code} {Q : State → Prop} {A : Nat → Prop} {D : va_G} {cT : Nat → ClassId} {σ' : sw_S}  (K : sw_C p s m args c cX8_sumInner 4 RX8 A D cT) (hT : sw_Tv cX8_sumInner p l e (sw_R 1 0 0 22) s m args below meth c Q 4 A D cT 0 0 σ') {rec40 : Nat → Int32 → Int32 → Int32 → sw_S → Option sw_S} (hrec40 : ∀ (v0 : Nat) (v1 : Int32) (v2 : Int32) (v3 : Int32) (σ : sw_S) (ce sl : Nat), rec40 v0 v1 v2 v3 σ = some σ' → ce + (0) ≤ 0 → sl + (0) ≤ 0 → sw_G p l e (sw_R 1 0 0 22) s m args below meth c Q 4 A D cT σ ce sl 40 [(0, P_ (some v0)), (1, I_ v1), (2, I_ v2), (3, I_ v3)] []) (v0 : Nat) (v1 : Int32) (v2 : Int32) (v3 : Int32) (σ : sw_S)  (ce sl : Nat) (h : b_X8_sumInner_106 rec40 v0 v1 v2 v3 σ = some σ') (hce : ce + (0) ≤ 0) (hsl : sl + (0) ≤ 0) : sw_G p l e (sw_R 1 0 0 22) s m args below meth c Q 4 A D cT σ ce sl 106 [(0, P_ (some v0)), (1, I_ v1), (2, I_ v2), (3, I_ v3)] [] := by
  unfold b_X8_sumInner_106 at h
  refine g_iinc (pc := 106) K 3 (v3 + 1) [(3, I_ ((v3 + 1))), (0, P_ (some v0)), (1, I_ v1), (2, I_ v2)] rfl rfl (by decide) rfl dX8_sumInner_106 ?_
  refine g_goto (pc := 109) (tgt := 40) K dX8_sumInner_109 (by decide) ?_
  refine g_sub K [1, 2, 3, 0] rfl ?_
  exact hrec40 _ _ _ _ _ _ _ h (by omega) (by omega)
def B_X8_sumInner_40 (rec40 : Nat → Int32 → Int32 → Int32 → sw_S → Option sw_S) (v0 : Nat) (v1 : Int32) (v2 : Int32) (v3 : Int32) (σ : sw_S) : Option sw_S :=
  (sw_gI 8 v0 16 σ).bind fun x1 =>
  (if x1 ≤ v3 then
  (sw_gR 8 v0 22 σ).bind fun r4 =>
  r4.bind fun a6 =>
  (sw_as 0 a6 v1 v2 σ).bind fun σ8 =>
  some σ8
  else
  (sw_gR 8 v0 18 σ).bind fun r9 =>
  r9.bind fun a11 =>
  (sw_al 0 a11 v3 σ).bind fun x13 =>
  (if x13 = v1 then
  (sw_gR 8 v0 21 σ).bind fun r15 =>
  r15.bind fun a17 =>
  (sw_al 0 a17 v3 σ).bind fun x19 =>
  (f_X8_add v2 x19 σ).bind fun x21 =>
  (sw_gR 8 v0 22 σ).bind fun r22 =>
  r22.bind fun a24 =>
  (sw_al 0 a24 v3 σ).bind fun x26 =>
  (f_X8_add x21 x26 σ).bind fun x28 =>
  (sw_gR 8 v0 23 σ).bind fun r29 =>
  r29.bind fun a31 =>
  (sw_al 0 a31 v3 σ).bind fun x33 =>
  (f_X8_add x28 x33 σ).bind fun x35 =>
  (sw_gR 8 v0 23 σ).bind fun r36 =>
  (sw_gR 8 v0 23 σ).bind fun r38 =>
  r38.bind fun a40 =>
  (sw_al 0 a40 v1 σ).bind fun x42 =>
  (sw_gR 8 v0 23 σ).bind fun r43 =>
  r43.bind fun a45 =>
  (sw_al 0 a45 v3 σ).bind fun x47 =>
  r36.bind fun a48 =>
  (sw_as 0 a48 v1 ((x42 + x47)) σ).bind fun σ50 =>
  b_X8_sumInner_106 rec40 v0 v1 x35 v3 σ50
  else
  b_X8_sumInner_106 rec40 v0 v1 v2 v3 σ))
set_option maxHeartbeats 4000000 in
set_option maxRecDepth 100000 in
theorem wB_X8_sumInner_40 {p : Program} {l : Launch} {e : Env} {s : State} {m : MethodId} {args : Array Value} {below : List Frame} {meth : Method} {c : Code} {Q : State → Prop} {A : Nat → Prop} {D : va_G} {cT : Nat → ClassId} {σ' : sw_S}  (K : sw_C p s m args c cX8_sumInner 4 RX8 A D cT) (hT : sw_Tv cX8_sumInner p l e (sw_R 1 0 0 22) s m args below meth c Q 4 A D cT 0 0 σ') {rec40 : Nat → Int32 → Int32 → Int32 → sw_S → Option sw_S} (hrec40 : ∀ (v0 : Nat) (v1 : Int32) (v2 : Int32) (v3 : Int32) (σ : sw_S) (ce sl : Nat), rec40 v0 v1 v2 v3 σ = some σ' → ce + (0) ≤ 0 → sl + (0) ≤ 0 → sw_G p l e (sw_R 1 0 0 22) s m args below meth c Q 4 A D cT σ ce sl 40 [(0, P_ (some v0)), (1, I_ v1), (2, I_ v2), (3, I_ v3)] []) (v0 : Nat) (v1 : Int32) (v2 : Int32) (v3 : Int32) (σ : sw_S)  (ce sl : Nat) (h : B_X8_sumInner_40 rec40 v0 v1 v2 v3 σ = some σ') (hce : ce + (0) ≤ 0) (hsl : sl + (0) ≤ 0) : sw_G p l e (sw_R 1 0 0 22) s m args below meth c Q 4 A D cT σ ce sl 40 [(0, P_ (some v0)), (1, I_ v1), (2, I_ v2), (3, I_ v3)] [] := by
  unfold B_X8_sumInner_40 at h
  refine g_iload_n (pc := 40) K 3 rfl rfl dX8_sumInner_40 ?_
  refine g_aload_n (pc := 41) K 0 rfl rfl dX8_sumInner_41 ?_
  replace h := Option.bind_eq_some_iff.mp h
  obtain ⟨x1, e2, h⟩ := h
  refine g_getI (pc := 42) K cl_8 hin_X8 (k := 16) (by decide) tb_534 rfl e2 dX8_sumInner_42 ?_
  refine g_icmp_ge (pc := 45) K 112 dX8_sumInner_45 (by decide) (fun c3 => ?_) (fun c3 => ?_)
  · replace h := (if_pos c3).symm.trans h
    refine g_aload_n (pc := 112) K 0 rfl rfl dX8_sumInner_112 ?_
    replace h := Option.bind_eq_some_iff.mp h
    obtain ⟨r4, e5, h⟩ := h
    refine g_getR (pc := 113) K cl_8 hin_X8 (k := 22) (by decide) tb_540 rfl e5 dX8_sumInner_113 ?_
    refine g_iload_n (pc := 116) K 1 rfl rfl dX8_sumInner_116 ?_
    refine g_iload_n (pc := 117) K 2 rfl rfl dX8_sumInner_117 ?_
    replace h := Option.bind_eq_some_iff.mp h
    obtain ⟨a6, rfl, h⟩ := h
    replace h := Option.bind_eq_some_iff.mp h
    obtain ⟨σ8, e7, h⟩ := h
    refine g_iast (pc := 118) K e7 dX8_sumInner_118 ?_
    cases h
    exact hT _ _ 119 _ (by omega) (by omega) dX8_sumInner_119
  · replace h := (if_neg c3).symm.trans h
    refine g_aload_n (pc := 48) K 0 rfl rfl dX8_sumInner_48 ?_
    replace h := Option.bind_eq_some_iff.mp h
    obtain ⟨r9, e10, h⟩ := h
    refine g_getR (pc := 49) K cl_8 hin_X8 (k := 18) (by decide) tb_536 rfl e10 dX8_sumInner_49 ?_
    refine g_iload_n (pc := 52) K 3 rfl rfl dX8_sumInner_52 ?_
    replace h := Option.bind_eq_some_iff.mp h
    obtain ⟨a11, rfl, h⟩ := h
    replace h := Option.bind_eq_some_iff.mp h
    obtain ⟨x13, e12, h⟩ := h
    refine g_iald (pc := 53) K e12 dX8_sumInner_53 ?_
    refine g_iload_n (pc := 54) K 1 rfl rfl dX8_sumInner_54 ?_
    refine g_icmp_ne (pc := 55) K 106 dX8_sumInner_55 (by decide) (fun c14 => ?_) (fun c14 => ?_)
    · replace h := (if_pos c14).symm.trans h
      refine g_iload_n (pc := 58) K 2 rfl rfl dX8_sumInner_58 ?_
      refine g_aload_n (pc := 59) K 0 rfl rfl dX8_sumInner_59 ?_
      replace h := Option.bind_eq_some_iff.mp h
      obtain ⟨r15, e16, h⟩ := h
      refine g_getR (pc := 60) K cl_8 hin_X8 (k := 21) (by decide) tb_539 rfl e16 dX8_sumInner_60 ?_
      refine g_iload_n (pc := 63) K 3 rfl rfl dX8_sumInner_63 ?_
      replace h := Option.bind_eq_some_iff.mp h
      obtain ⟨a17, rfl, h⟩ := h
      replace h := Option.bind_eq_some_iff.mp h
      obtain ⟨x19, e18, h⟩ := h
      refine g_iald (pc := 64) K e18 dX8_sumInner_64 ?_
      replace h := Option.bind_eq_some_iff.mp h
      obtain ⟨x21, e20, h⟩ := h
      refine g_callS (pc := 65) (st := []) K [I_ v2, I_ x19] (c_X8_add _ _ _ _ _ _ e20) tb_516 tb_514 tb_7 tb_515 hd_X8_add ⟨Nat.le_of_ble_eq_true rfl, Nat.le_of_ble_eq_true rfl⟩ rfl (sw_rm (Nat.le_of_ble_eq_true rfl)) ⟨by show _ ≤ 0; omega, by show _ ≤ 0; omega⟩ dX8_sumInner_65 ?_
      refine g_aload_n (pc := 68) K 0 rfl rfl dX8_sumInner_68 ?_
      replace h := Option.bind_eq_some_iff.mp h
      obtain ⟨r22, e23, h⟩ := h
      refine g_getR (pc := 69) K cl_8 hin_X8 (k := 22) (by decide) tb_540 rfl e23 dX8_sumInner_69 ?_
      refine g_iload_n (pc := 72) K 3 rfl rfl dX8_sumInner_72 ?_
      replace h := Option.bind_eq_some_iff.mp h
      obtain ⟨a24, rfl, h⟩ := h
      replace h := Option.bind_eq_some_iff.mp h
      obtain ⟨x26, e25, h⟩ := h
      refine g_iald (pc := 73) K e25 dX8_sumInner_73 ?_
      replace h := Option.bind_eq_some_iff.mp h
      obtain ⟨x28, e27, h⟩ := h
      refine g_callS (pc := 74) (st := []) K [I_ x21, I_ x26] (c_X8_add _ _ _ _ _ _ e27) tb_516 tb_514 tb_7 tb_515 hd_X8_add ⟨Nat.le_of_ble_eq_true rfl, Nat.le_of_ble_eq_true rfl⟩ rfl (sw_rm (Nat.le_of_ble_eq_true rfl)) ⟨by show _ ≤ 0; omega, by show _ ≤ 0; omega⟩ dX8_sumInner_74 ?_
      refine g_aload_n (pc := 77) K 0 rfl rfl dX8_sumInner_77 ?_
      replace h := Option.bind_eq_some_iff.mp h
      obtain ⟨r29, e30, h⟩ := h
      refine g_getR (pc := 78) K cl_8 hin_X8 (k := 23) (by decide) tb_541 rfl e30 dX8_sumInner_78 ?_
      refine g_iload_n (pc := 81) K 3 rfl rfl dX8_sumInner_81 ?_
      replace h := Option.bind_eq_some_iff.mp h
      obtain ⟨a31, rfl, h⟩ := h
      replace h := Option.bind_eq_some_iff.mp h
      obtain ⟨x33, e32, h⟩ := h
      refine g_iald (pc := 82) K e32 dX8_sumInner_82 ?_
      replace h := Option.bind_eq_some_iff.mp h
      obtain ⟨x35, e34, h⟩ := h
      refine g_callS (pc := 83) (st := []) K [I_ x28, I_ x33] (c_X8_add _ _ _ _ _ _ e34) tb_516 tb_514 tb_7 tb_515 hd_X8_add ⟨Nat.le_of_ble_eq_true rfl, Nat.le_of_ble_eq_true rfl⟩ rfl (sw_rm (Nat.le_of_ble_eq_true rfl)) ⟨by show _ ≤ 0; omega, by show _ ≤ 0; omega⟩ dX8_sumInner_83 ?_
      refine g_istore_n (pc := 86) K [(2, I_ x35), (0, P_ (some v0)), (1, I_ v1), (3, I_ v3)] rfl (by decide) rfl dX8_sumInner_86 ?_
      refine g_aload_n (pc := 87) K 1 rfl rfl dX8_sumInner_87 ?_
      replace h := Option.bind_eq_some_iff.mp h
      obtain ⟨r36, e37, h⟩ := h
      refine g_getR (pc := 88) K cl_8 hin_X8 (k := 23) (by decide) tb_541 rfl e37 dX8_sumInner_88 ?_
      refine g_iload_n (pc := 91) K 2 rfl rfl dX8_sumInner_91 ?_
      refine g_aload_n (pc := 92) K 1 rfl rfl dX8_sumInner_92 ?_
      replace h := Option.bind_eq_some_iff.mp h
      obtain ⟨r38, e39, h⟩ := h
      refine g_getR (pc := 93) K cl_8 hin_X8 (k := 23) (by decide) tb_541 rfl e39 dX8_sumInner_93 ?_
      refine g_iload_n (pc := 96) K 2 rfl rfl dX8_sumInner_96 ?_
      replace h := Option.bind_eq_some_iff.mp h
      obtain ⟨a40, rfl, h⟩ := h
      replace h := Option.bind_eq_some_iff.mp h
      obtain ⟨x42, e41, h⟩ := h
      refine g_iald (pc := 97) K e41 dX8_sumInner_97 ?_
      refine g_aload_n (pc := 98) K 1 rfl rfl dX8_sumInner_98 ?_
      replace h := Option.bind_eq_some_iff.mp h
      obtain ⟨r43, e44, h⟩ := h
      refine g_getR (pc := 99) K cl_8 hin_X8 (k := 23) (by decide) tb_541 rfl e44 dX8_sumInner_99 ?_
      refine g_iload_n (pc := 102) K 3 rfl rfl dX8_sumInner_102 ?_
      replace h := Option.bind_eq_some_iff.mp h
      obtain ⟨a45, rfl, h⟩ := h
      replace h := Option.bind_eq_some_iff.mp h
      obtain ⟨x47, e46, h⟩ := h
      refine g_iald (pc := 103) K e46 dX8_sumInner_103 ?_
      refine g_iadd (pc := 104) K dX8_sumInner_104 ?_
      replace h := Option.bind_eq_some_iff.mp h
      obtain ⟨a48, rfl, h⟩ := h
      replace h := Option.bind_eq_some_iff.mp h
      obtain ⟨σ50, e49, h⟩ := h
      refine g_iast (pc := 105) K e49 dX8_sumInner_105 ?_
      refine g_sub K [1, 2, 0, 3] rfl ?_
      exact w_X8_sumInner_106 K hT hrec40  _ _ _ _ _ _ _ h (by omega) (by omega)
    · replace h := (if_neg c14).symm.trans h
      refine g_sub K [0, 1, 2, 3] rfl ?_
      exact w_X8_sumInner_106 K hT hrec40  _ _ _ _ _ _ _ h (by omega) (by omega)
def b_X8_sumInner_40  : Nat → Nat → Int32 → Int32 → Int32 → sw_S → Option sw_S
  | 0 => fun _ _ _ _ _ => none
  | n + 1 => B_X8_sumInner_40 (b_X8_sumInner_40  n)
theorem wl_X8_sumInner_40 {p : Program} {l : Launch} {e : Env} {s : State} {m : MethodId} {args : Array Value} {below : List Frame} {meth : Method} {c : Code} {Q : State → Prop} {A : Nat → Prop} {D : va_G} {cT : Nat → ClassId} {σ' : sw_S}  (K : sw_C p s m args c cX8_sumInner 4 RX8 A D cT) (hT : sw_Tv cX8_sumInner p l e (sw_R 1 0 0 22) s m args below meth c Q 4 A D cT 0 0 σ') : ∀ (n : Nat) (v0 : Nat) (v1 : Int32) (v2 : Int32) (v3 : Int32) (σ : sw_S) (ce sl : Nat), b_X8_sumInner_40  n v0 v1 v2 v3 σ = some σ' → ce + (0) ≤ 0 → sl + (0) ≤ 0 → sw_G p l e (sw_R 1 0 0 22) s m args below meth c Q 4 A D cT σ ce sl 40 [(0, P_ (some v0)), (1, I_ v1), (2, I_ v2), (3, I_ v3)] [] := by
  intro n
  induction n with
  | zero =>
    intro v0 v1 v2 v3 σ ce sl h
    exact absurd (show none = some σ' from h) (by simp)
  | succ n ih =>
    intro v0 v1 v2 v3 σ ce sl h hce hsl
    exact wB_X8_sumInner_40 K hT (fun _ _ _ _ _ _ _ h h1 h2 => ih _ _ _ _ _ _ _ h h1 h2) _ _ _ _ _ _ _ h hce hsl
def f_X8_sumInner (p0 : Nat) (q1 : Int32) (σ : sw_S) : Option sw_S :=
  (f_X8_add 1 2 σ).bind fun x2 =>
  (sw_gR 8 p0 19 σ).bind fun r3 =>
  r3.bind fun a5 =>
  (sw_al 0 a5 q1 σ).bind fun x7 =>
  (f_X8_add x2 x7 σ).bind fun x9 =>
  (sw_gR 8 p0 23 σ).bind fun r10 =>
  r10.bind fun a12 =>
  (sw_as 0 a12 q1 0 σ).bind fun σ14 =>
  (sw_gR 8 p0 21 σ14).bind fun r15 =>
  (sw_gR 8 p0 21 σ14).bind fun r17 =>
  r17.bind fun a19 =>
  (sw_al 0 a19 ((q1 + 1)) σ14).bind fun x21 =>
  r15.bind fun a22 =>
  (sw_as 0 a22 q1 x21 σ14).bind fun σ24 =>
  b_X8_sumInner_40 1000 p0 q1 x9 ((q1 + 1)) σ24
set_option maxHeartbeats 4000000 in
set_option maxRecDepth 100000 in
theorem c_X8_sumInner  (l : Launch) (D : va_G) (cT : Nat → ClassId) (p0 : Nat) (q1 : Int32) (σ : sw_S) {σ' : sw_S} (h : f_X8_sumInner p0 q1 σ = some σ') : sw_M l D cT yX8_sumInner cX8_sumInner 4 none 1 22 0 0 σ [P_ (some p0), I_ q1] none σ' := by
  refine sw_met_v (by decide) (Nat.le_of_ble_eq_true rfl) (fun p e s m args below meth c A Q K hnm hT => ?_)
  have hce : 0 + 0 ≤ 0 := Nat.le_of_ble_eq_true rfl
  have hsl : 0 + 0 ≤ 0 := Nat.le_of_ble_eq_true rfl
  unfold f_X8_sumInner at h
  change sw_G p l e (sw_R 1 0 0 22) s m args below meth c Q 4 A D cT σ 0 0 0 [(0, P_ (some p0)), (1, I_ q1)] []
  refine g_iconst (pc := 0) (v := 1) K dX8_sumInner_0 (by decide) ?_
  refine g_iconst (pc := 1) (v := 2) K dX8_sumInner_1 (by decide) ?_
  replace h := Option.bind_eq_some_iff.mp h
  obtain ⟨x2, e1, h⟩ := h
  refine g_callS (pc := 2) (st := []) K [I_ 1, I_ 2] (c_X8_add _ _ _ _ _ _ e1) tb_516 tb_514 tb_7 tb_515 hd_X8_add ⟨Nat.le_of_ble_eq_true rfl, Nat.le_of_ble_eq_true rfl⟩ rfl (sw_rm (Nat.le_of_ble_eq_true rfl)) ⟨by show _ ≤ 0; omega, by show _ ≤ 0; omega⟩ dX8_sumInner_2 ?_
  refine g_aload_n (pc := 5) K 0 rfl rfl dX8_sumInner_5 ?_
  replace h := Option.bind_eq_some_iff.mp h
  obtain ⟨r3, e4, h⟩ := h
  refine g_getR (pc := 6) K cl_8 hin_X8 (k := 19) (by decide) tb_537 rfl e4 dX8_sumInner_6 ?_
  refine g_iload_n (pc := 9) K 1 rfl rfl dX8_sumInner_9 ?_
  replace h := Option.bind_eq_some_iff.mp h
  obtain ⟨a5, rfl, h⟩ := h
  replace h := Option.bind_eq_some_iff.mp h
  obtain ⟨x7, e6, h⟩ := h
  refine g_iald (pc := 10) K e6 dX8_sumInner_10 ?_
  replace h := Option.bind_eq_some_iff.mp h
  obtain ⟨x9, e8, h⟩ := h
  refine g_callS (pc := 11) (st := []) K [I_ x2, I_ x7] (c_X8_add _ _ _ _ _ _ e8) tb_516 tb_514 tb_7 tb_515 hd_X8_add ⟨Nat.le_of_ble_eq_true rfl, Nat.le_of_ble_eq_true rfl⟩ rfl (sw_rm (Nat.le_of_ble_eq_true rfl)) ⟨by show _ ≤ 0; omega, by show _ ≤ 0; omega⟩ dX8_sumInner_11 ?_
  refine g_istore_n (pc := 14) K [(2, I_ x9), (0, P_ (some p0)), (1, I_ q1)] rfl (by decide) rfl dX8_sumInner_14 ?_
  refine g_aload_n (pc := 15) K 1 rfl rfl dX8_sumInner_15 ?_
  replace h := Option.bind_eq_some_iff.mp h
  obtain ⟨r10, e11, h⟩ := h
  refine g_getR (pc := 16) K cl_8 hin_X8 (k := 23) (by decide) tb_541 rfl e11 dX8_sumInner_16 ?_
  refine g_iload_n (pc := 19) K 2 rfl rfl dX8_sumInner_19 ?_
  refine g_iconst (pc := 20) (v := 0) K dX8_sumInner_20 (by decide) ?_
  replace h := Option.bind_eq_some_iff.mp h
  obtain ⟨a12, rfl, h⟩ := h
  replace h := Option.bind_eq_some_iff.mp h
  obtain ⟨σ14, e13, h⟩ := h
  refine g_iast (pc := 21) K e13 dX8_sumInner_21 ?_
  refine g_aload_n (pc := 22) K 1 rfl rfl dX8_sumInner_22 ?_
  replace h := Option.bind_eq_some_iff.mp h
  obtain ⟨r15, e16, h⟩ := h
  refine g_getR (pc := 23) K cl_8 hin_X8 (k := 21) (by decide) tb_539 rfl e16 dX8_sumInner_23 ?_
  refine g_iload_n (pc := 26) K 2 rfl rfl dX8_sumInner_26 ?_
  refine g_aload_n (pc := 27) K 1 rfl rfl dX8_sumInner_27 ?_
  replace h := Option.bind_eq_some_iff.mp h
  obtain ⟨r17, e18, h⟩ := h
  refine g_getR (pc := 28) K cl_8 hin_X8 (k := 21) (by decide) tb_539 rfl e18 dX8_sumInner_28 ?_
  refine g_iload_n (pc := 31) K 2 rfl rfl dX8_sumInner_31 ?_
  refine g_iconst (pc := 32) (v := 1) K dX8_sumInner_32 (by decide) ?_
  refine g_iadd (pc := 33) K dX8_sumInner_33 ?_
  replace h := Option.bind_eq_some_iff.mp h
  obtain ⟨a19, rfl, h⟩ := h
  replace h := Option.bind_eq_some_iff.mp h
  obtain ⟨x21, e20, h⟩ := h
  refine g_iald (pc := 34) K e20 dX8_sumInner_34 ?_
  replace h := Option.bind_eq_some_iff.mp h
  obtain ⟨a22, rfl, h⟩ := h
  replace h := Option.bind_eq_some_iff.mp h
  obtain ⟨σ24, e23, h⟩ := h
  refine g_iast (pc := 35) K e23 dX8_sumInner_35 ?_
  refine g_iload_n (pc := 36) K 2 rfl rfl dX8_sumInner_36 ?_
  refine g_iconst (pc := 37) (v := 1) K dX8_sumInner_37 (by decide) ?_
  refine g_iadd (pc := 38) K dX8_sumInner_38 ?_
  refine g_istore_n (pc := 39) K [(3, I_ ((q1 + 1))), (2, I_ x9), (0, P_ (some p0)), (1, I_ q1)] rfl (by decide) rfl dX8_sumInner_39 ?_
  refine g_sub K [2, 3, 1, 0] rfl ?_
  exact wl_X8_sumInner_40 K hT  1000 _ _ _ _ _ _ _ h (by omega) (by omega)

def b_X8_sums_96 (rec7 : Nat → Int32 → sw_S → Option sw_S) (v0 : Nat) (v1 : Int32) (σ : sw_S) : Option sw_S :=
  rec7 v0 ((v1 + (-1))) σ
set_option maxHeartbeats 4000000 in
set_option maxRecDepth 100000 in
theorem w_X8_sums_96 {p : Program} {l : Launch} {e : Env} {s : State} {m : MethodId} {args : Array Value} {below : List Frame} {meth : Method} {c : Code} {Q : State → Prop} {A : Nat → Prop} {D : va_G} {cT : Nat → ClassId} {σ' : sw_S}  (K : sw_C p s m args c cX8_sums 4 RX8 A D cT) (hT : sw_Tv cX8_sums p l e (sw_R 2 0 0 45) s m args below meth c Q 4 A D cT 0 0 σ') {rec7 : Nat → Int32 → sw_S → Option sw_S} (hrec7 : ∀ (v0 : Nat) (v1 : Int32) (σ : sw_S) (ce sl : Nat), rec7 v0 v1 σ = some σ' → ce + (0) ≤ 0 → sl + (0) ≤ 0 → sw_G p l e (sw_R 2 0 0 45) s m args below meth c Q 4 A D cT σ ce sl 7 [(0, P_ (some v0)), (1, I_ v1)] []) (v0 : Nat) (v1 : Int32) (σ : sw_S)  (ce sl : Nat) (h : b_X8_sums_96 rec7 v0 v1 σ = some σ') (hce : ce + (0) ≤ 0) (hsl : sl + (0) ≤ 0) : sw_G p l e (sw_R 2 0 0 45) s m args below meth c Q 4 A D cT σ ce sl 96 [(0, P_ (some v0)), (1, I_ v1)] [] := by
  unfold b_X8_sums_96 at h
  refine g_iinc (pc := 96) K 1 (v1 + (-1)) [(1, I_ ((v1 + (-1)))), (0, P_ (some v0))] rfl (congrArg (fun z => v1 + z) (by decide : Int32.ofInt (-1) = (-1))) (by decide) rfl dX8_sums_96 ?_
  refine g_goto (pc := 99) (tgt := 7) K dX8_sums_99 (by decide) ?_
  refine g_sub K [1, 0] rfl ?_
  exact hrec7 _ _ _ _ _ h (by omega) (by omega)
def b_X8_sums_81 (rec7 : Nat → Int32 → sw_S → Option sw_S) (v0 : Nat) (v1 : Int32) (σ : sw_S) : Option sw_S :=
  (sw_gR 8 v0 17 σ).bind fun r1 =>
  r1.bind fun a3 =>
  (sw_al 0 a3 v1 σ).bind fun x5 =>
  (if x5 = 2 then
  (sw_ob 8 v0 σ).bind fun f7 =>
  (f_X8_sumInner v0 v1 σ).bind fun σ10 =>
  b_X8_sums_96 rec7 v0 v1 σ10
  else
  b_X8_sums_96 rec7 v0 v1 σ)
set_option maxHeartbeats 4000000 in
set_option maxRecDepth 100000 in
theorem w_X8_sums_81 {p : Program} {l : Launch} {e : Env} {s : State} {m : MethodId} {args : Array Value} {below : List Frame} {meth : Method} {c : Code} {Q : State → Prop} {A : Nat → Prop} {D : va_G} {cT : Nat → ClassId} {σ' : sw_S}  (K : sw_C p s m args c cX8_sums 4 RX8 A D cT) (hT : sw_Tv cX8_sums p l e (sw_R 2 0 0 45) s m args below meth c Q 4 A D cT 0 0 σ') {rec7 : Nat → Int32 → sw_S → Option sw_S} (hrec7 : ∀ (v0 : Nat) (v1 : Int32) (σ : sw_S) (ce sl : Nat), rec7 v0 v1 σ = some σ' → ce + (0) ≤ 0 → sl + (0) ≤ 0 → sw_G p l e (sw_R 2 0 0 45) s m args below meth c Q 4 A D cT σ ce sl 7 [(0, P_ (some v0)), (1, I_ v1)] []) (v0 : Nat) (v1 : Int32) (σ : sw_S)  (ce sl : Nat) (h : b_X8_sums_81 rec7 v0 v1 σ = some σ') (hce : ce + (0) ≤ 0) (hsl : sl + (0) ≤ 0) : sw_G p l e (sw_R 2 0 0 45) s m args below meth c Q 4 A D cT σ ce sl 81 [(0, P_ (some v0)), (1, I_ v1)] [] := by
  unfold b_X8_sums_81 at h
  refine g_aload_n (pc := 81) K 0 rfl rfl dX8_sums_81 ?_
  replace h := Option.bind_eq_some_iff.mp h
  obtain ⟨r1, e2, h⟩ := h
  refine g_getR (pc := 82) K cl_8 hin_X8 (k := 17) (by decide) tb_535 rfl e2 dX8_sums_82 ?_
  refine g_iload_n (pc := 85) K 1 rfl rfl dX8_sums_85 ?_
  replace h := Option.bind_eq_some_iff.mp h
  obtain ⟨a3, rfl, h⟩ := h
  replace h := Option.bind_eq_some_iff.mp h
  obtain ⟨x5, e4, h⟩ := h
  refine g_iald (pc := 86) K e4 dX8_sums_86 ?_
  refine g_iconst (pc := 87) (v := 2) K dX8_sums_87 (by decide) ?_
  refine g_icmp_ne (pc := 88) K 96 dX8_sums_88 (by decide) (fun c6 => ?_) (fun c6 => ?_)
  · replace h := (if_pos c6).symm.trans h
    refine g_aload_n (pc := 91) K 0 rfl rfl dX8_sums_91 ?_
    refine g_iload_n (pc := 92) K 1 rfl rfl dX8_sums_92 ?_
    replace h := Option.bind_eq_some_iff.mp h
    obtain ⟨f7, e8, h⟩ := h
    replace h := Option.bind_eq_some_iff.mp h
    obtain ⟨σ10, e9, h⟩ := h
    refine g_callV (pc := 93) (st := []) K [I_ v1] (c_X8_sumInner _ _ _ _ _ _ e9) e8 cl_8 rfl tb_764 tb_761 tb_7 tb_763 sl_50 hd_X8_sumInner ⟨Nat.le_of_ble_eq_true rfl, Nat.le_of_ble_eq_true rfl⟩ rfl (sw_rm (Nat.le_of_ble_eq_true rfl)) ⟨by show _ ≤ 0; omega, by show _ ≤ 0; omega⟩ dX8_sums_93 ?_
    refine g_sub K [0, 1] rfl ?_
    exact w_X8_sums_96 K hT hrec7  _ _ _ _ _ h (by omega) (by omega)
  · replace h := (if_neg c6).symm.trans h
    refine g_sub K [0, 1] rfl ?_
    exact w_X8_sums_96 K hT hrec7  _ _ _ _ _ h (by omega) (by omega)
def B_X8_sums_38 (rec7 : Nat → Int32 → sw_S → Option sw_S) (rec38 : Nat → Int32 → Int32 → Int32 → sw_S → Option sw_S) (v0 : Nat) (v1 : Int32) (v2 : Int32) (v3 : Int32) (σ : sw_S) : Option sw_S :=
  (sw_gR 8 v0 19 σ).bind fun r1 =>
  r1.bind fun a3 =>
  (sw_al 0 a3 v1 σ).bind fun x5 =>
  (if ((2 * x5)) ≤ v3 then
  (sw_gR 8 v0 22 σ).bind fun r7 =>
  r7.bind fun a9 =>
  (sw_as 0 a9 v1 v2 σ).bind fun σ11 =>
  b_X8_sums_81 rec7 v0 v1 σ11
  else
  (sw_gR 8 v0 11 σ).bind fun r12 =>
  (sw_gR 8 v0 20 σ).bind fun r14 =>
  r14.bind fun a16 =>
  (sw_al 0 a16 v1 σ).bind fun x18 =>
  r12.bind fun a19 =>
  (sw_al 0 a19 ((x18 + v3)) σ).bind fun x21 =>
  (f_X8_add v2 x21 σ).bind fun x23 =>
  rec38 v0 v1 x23 ((v3 + 1)) σ)
set_option maxHeartbeats 4000000 in
set_option maxRecDepth 100000 in
theorem wB_X8_sums_38 {p : Program} {l : Launch} {e : Env} {s : State} {m : MethodId} {args : Array Value} {below : List Frame} {meth : Method} {c : Code} {Q : State → Prop} {A : Nat → Prop} {D : va_G} {cT : Nat → ClassId} {σ' : sw_S}  (K : sw_C p s m args c cX8_sums 4 RX8 A D cT) (hT : sw_Tv cX8_sums p l e (sw_R 2 0 0 45) s m args below meth c Q 4 A D cT 0 0 σ') {rec7 : Nat → Int32 → sw_S → Option sw_S} {rec38 : Nat → Int32 → Int32 → Int32 → sw_S → Option sw_S} (hrec7 : ∀ (v0 : Nat) (v1 : Int32) (σ : sw_S) (ce sl : Nat), rec7 v0 v1 σ = some σ' → ce + (0) ≤ 0 → sl + (0) ≤ 0 → sw_G p l e (sw_R 2 0 0 45) s m args below meth c Q 4 A D cT σ ce sl 7 [(0, P_ (some v0)), (1, I_ v1)] []) (hrec38 : ∀ (v0 : Nat) (v1 : Int32) (v2 : Int32) (v3 : Int32) (σ : sw_S) (ce sl : Nat), rec38 v0 v1 v2 v3 σ = some σ' → ce + (0) ≤ 0 → sl + (0) ≤ 0 → sw_G p l e (sw_R 2 0 0 45) s m args below meth c Q 4 A D cT σ ce sl 38 [(0, P_ (some v0)), (1, I_ v1), (2, I_ v2), (3, I_ v3)] []) (v0 : Nat) (v1 : Int32) (v2 : Int32) (v3 : Int32) (σ : sw_S)  (ce sl : Nat) (h : B_X8_sums_38 rec7 rec38 v0 v1 v2 v3 σ = some σ') (hce : ce + (0) ≤ 0) (hsl : sl + (0) ≤ 0) : sw_G p l e (sw_R 2 0 0 45) s m args below meth c Q 4 A D cT σ ce sl 38 [(0, P_ (some v0)), (1, I_ v1), (2, I_ v2), (3, I_ v3)] [] := by
  unfold B_X8_sums_38 at h
  refine g_iload_n (pc := 38) K 3 rfl rfl dX8_sums_38 ?_
  refine g_iconst (pc := 39) (v := 2) K dX8_sums_39 (by decide) ?_
  refine g_aload_n (pc := 40) K 0 rfl rfl dX8_sums_40 ?_
  replace h := Option.bind_eq_some_iff.mp h
  obtain ⟨r1, e2, h⟩ := h
  refine g_getR (pc := 41) K cl_8 hin_X8 (k := 19) (by decide) tb_537 rfl e2 dX8_sums_41 ?_
  refine g_iload_n (pc := 44) K 1 rfl rfl dX8_sums_44 ?_
  replace h := Option.bind_eq_some_iff.mp h
  obtain ⟨a3, rfl, h⟩ := h
  replace h := Option.bind_eq_some_iff.mp h
  obtain ⟨x5, e4, h⟩ := h
  refine g_iald (pc := 45) K e4 dX8_sums_45 ?_
  refine g_imul (pc := 46) K dX8_sums_46 ?_
  refine g_icmp_ge (pc := 47) K 74 dX8_sums_47 (by decide) (fun c6 => ?_) (fun c6 => ?_)
  · replace h := (if_pos c6).symm.trans h
    refine g_aload_n (pc := 74) K 0 rfl rfl dX8_sums_74 ?_
    replace h := Option.bind_eq_some_iff.mp h
    obtain ⟨r7, e8, h⟩ := h
    refine g_getR (pc := 75) K cl_8 hin_X8 (k := 22) (by decide) tb_540 rfl e8 dX8_sums_75 ?_
    refine g_iload_n (pc := 78) K 1 rfl rfl dX8_sums_78 ?_
    refine g_iload_n (pc := 79) K 2 rfl rfl dX8_sums_79 ?_
    replace h := Option.bind_eq_some_iff.mp h
    obtain ⟨a9, rfl, h⟩ := h
    replace h := Option.bind_eq_some_iff.mp h
    obtain ⟨σ11, e10, h⟩ := h
    refine g_iast (pc := 80) K e10 dX8_sums_80 ?_
    refine g_sub K [0, 1] rfl ?_
    exact w_X8_sums_81 K hT hrec7  _ _ _ _ _ h (by omega) (by omega)
  · replace h := (if_neg c6).symm.trans h
    refine g_iload_n (pc := 50) K 2 rfl rfl dX8_sums_50 ?_
    refine g_aload_n (pc := 51) K 0 rfl rfl dX8_sums_51 ?_
    replace h := Option.bind_eq_some_iff.mp h
    obtain ⟨r12, e13, h⟩ := h
    refine g_getR (pc := 52) K cl_8 hin_X8 (k := 11) (by decide) tb_529 rfl e13 dX8_sums_52 ?_
    refine g_aload_n (pc := 55) K 0 rfl rfl dX8_sums_55 ?_
    replace h := Option.bind_eq_some_iff.mp h
    obtain ⟨r14, e15, h⟩ := h
    refine g_getR (pc := 56) K cl_8 hin_X8 (k := 20) (by decide) tb_538 rfl e15 dX8_sums_56 ?_
    refine g_iload_n (pc := 59) K 1 rfl rfl dX8_sums_59 ?_
    replace h := Option.bind_eq_some_iff.mp h
    obtain ⟨a16, rfl, h⟩ := h
    replace h := Option.bind_eq_some_iff.mp h
    obtain ⟨x18, e17, h⟩ := h
    refine g_iald (pc := 60) K e17 dX8_sums_60 ?_
    refine g_iload_n (pc := 61) K 3 rfl rfl dX8_sums_61 ?_
    refine g_iadd (pc := 62) K dX8_sums_62 ?_
    replace h := Option.bind_eq_some_iff.mp h
    obtain ⟨a19, rfl, h⟩ := h
    replace h := Option.bind_eq_some_iff.mp h
    obtain ⟨x21, e20, h⟩ := h
    refine g_iald (pc := 63) K e20 dX8_sums_63 ?_
    replace h := Option.bind_eq_some_iff.mp h
    obtain ⟨x23, e22, h⟩ := h
    refine g_callS (pc := 64) (st := []) K [I_ v2, I_ x21] (c_X8_add _ _ _ _ _ _ e22) tb_516 tb_514 tb_7 tb_515 hd_X8_add ⟨Nat.le_of_ble_eq_true rfl, Nat.le_of_ble_eq_true rfl⟩ rfl (sw_rm (Nat.le_of_ble_eq_true rfl)) ⟨by show _ ≤ 0; omega, by show _ ≤ 0; omega⟩ dX8_sums_64 ?_
    refine g_istore_n (pc := 67) K [(2, I_ x23), (0, P_ (some v0)), (1, I_ v1), (3, I_ v3)] rfl (by decide) rfl dX8_sums_67 ?_
    refine g_iinc (pc := 68) K 3 (v3 + 1) [(3, I_ ((v3 + 1))), (2, I_ x23), (0, P_ (some v0)), (1, I_ v1)] rfl rfl (by decide) rfl dX8_sums_68 ?_
    refine g_goto (pc := 71) (tgt := 38) K dX8_sums_71 (by decide) ?_
    refine g_sub K [2, 3, 1, 0] rfl ?_
    exact hrec38 _ _ _ _ _ _ _ h (by omega) (by omega)
def b_X8_sums_38 (rec7 : Nat → Int32 → sw_S → Option sw_S) : Nat → Nat → Int32 → Int32 → Int32 → sw_S → Option sw_S
  | 0 => fun _ _ _ _ _ => none
  | n + 1 => B_X8_sums_38 rec7 (b_X8_sums_38 rec7 n)
theorem wl_X8_sums_38 {p : Program} {l : Launch} {e : Env} {s : State} {m : MethodId} {args : Array Value} {below : List Frame} {meth : Method} {c : Code} {Q : State → Prop} {A : Nat → Prop} {D : va_G} {cT : Nat → ClassId} {σ' : sw_S}  (K : sw_C p s m args c cX8_sums 4 RX8 A D cT) (hT : sw_Tv cX8_sums p l e (sw_R 2 0 0 45) s m args below meth c Q 4 A D cT 0 0 σ') {rec7 : Nat → Int32 → sw_S → Option sw_S} (hrec7 : ∀ (v0 : Nat) (v1 : Int32) (σ : sw_S) (ce sl : Nat), rec7 v0 v1 σ = some σ' → ce + (0) ≤ 0 → sl + (0) ≤ 0 → sw_G p l e (sw_R 2 0 0 45) s m args below meth c Q 4 A D cT σ ce sl 7 [(0, P_ (some v0)), (1, I_ v1)] []) : ∀ (n : Nat) (v0 : Nat) (v1 : Int32) (v2 : Int32) (v3 : Int32) (σ : sw_S) (ce sl : Nat), b_X8_sums_38 rec7 n v0 v1 v2 v3 σ = some σ' → ce + (0) ≤ 0 → sl + (0) ≤ 0 → sw_G p l e (sw_R 2 0 0 45) s m args below meth c Q 4 A D cT σ ce sl 38 [(0, P_ (some v0)), (1, I_ v1), (2, I_ v2), (3, I_ v3)] [] := by
  intro n
  induction n with
  | zero =>
    intro v0 v1 v2 v3 σ ce sl h
    exact absurd (show none = some σ' from h) (by simp)
  | succ n ih =>
    intro v0 v1 v2 v3 σ ce sl h hce hsl
    exact wB_X8_sums_38 K hT hrec7 (fun _ _ _ _ _ _ _ h h1 h2 => ih _ _ _ _ _ _ _ h h1 h2) _ _ _ _ _ _ _ h hce hsl
def B_X8_sums_7 (rec7 : Nat → Int32 → sw_S → Option sw_S) (v0 : Nat) (v1 : Int32) (σ : sw_S) : Option sw_S :=
  (if v1 < 0 then
  some σ
  else
  (sw_gR 8 v0 17 σ).bind fun r2 =>
  r2.bind fun a4 =>
  (sw_al 0 a4 v1 σ).bind fun x6 =>
  (if x6 = 1 then
  (f_X8_add 1 1 σ).bind fun x9 =>
  (sw_gR 8 v0 19 σ).bind fun r10 =>
  r10.bind fun a12 =>
  (sw_al 0 a12 v1 σ).bind fun x14 =>
  (f_X8_add x9 x14 σ).bind fun x16 =>
  b_X8_sums_38 rec7 1000 v0 v1 x16 0 σ
  else
  b_X8_sums_81 rec7 v0 v1 σ))
set_option maxHeartbeats 4000000 in
set_option maxRecDepth 100000 in
theorem wB_X8_sums_7 {p : Program} {l : Launch} {e : Env} {s : State} {m : MethodId} {args : Array Value} {below : List Frame} {meth : Method} {c : Code} {Q : State → Prop} {A : Nat → Prop} {D : va_G} {cT : Nat → ClassId} {σ' : sw_S}  (K : sw_C p s m args c cX8_sums 4 RX8 A D cT) (hT : sw_Tv cX8_sums p l e (sw_R 2 0 0 45) s m args below meth c Q 4 A D cT 0 0 σ') {rec7 : Nat → Int32 → sw_S → Option sw_S} (hrec7 : ∀ (v0 : Nat) (v1 : Int32) (σ : sw_S) (ce sl : Nat), rec7 v0 v1 σ = some σ' → ce + (0) ≤ 0 → sl + (0) ≤ 0 → sw_G p l e (sw_R 2 0 0 45) s m args below meth c Q 4 A D cT σ ce sl 7 [(0, P_ (some v0)), (1, I_ v1)] []) (v0 : Nat) (v1 : Int32) (σ : sw_S)  (ce sl : Nat) (h : B_X8_sums_7 rec7 v0 v1 σ = some σ') (hce : ce + (0) ≤ 0) (hsl : sl + (0) ≤ 0) : sw_G p l e (sw_R 2 0 0 45) s m args below meth c Q 4 A D cT σ ce sl 7 [(0, P_ (some v0)), (1, I_ v1)] [] := by
  unfold B_X8_sums_7 at h
  refine g_iload_n (pc := 7) K 1 rfl rfl dX8_sums_7 ?_
  refine g_if_lt (pc := 8) K 102 dX8_sums_8 (by decide) (fun c1 => ?_) (fun c1 => ?_)
  · replace h := (if_pos c1).symm.trans h
    cases h
    exact hT _ _ 102 _ (by omega) (by omega) dX8_sums_102
  · replace h := (if_neg c1).symm.trans h
    refine g_aload_n (pc := 11) K 0 rfl rfl dX8_sums_11 ?_
    replace h := Option.bind_eq_some_iff.mp h
    obtain ⟨r2, e3, h⟩ := h
    refine g_getR (pc := 12) K cl_8 hin_X8 (k := 17) (by decide) tb_535 rfl e3 dX8_sums_12 ?_
    refine g_iload_n (pc := 15) K 1 rfl rfl dX8_sums_15 ?_
    replace h := Option.bind_eq_some_iff.mp h
    obtain ⟨a4, rfl, h⟩ := h
    replace h := Option.bind_eq_some_iff.mp h
    obtain ⟨x6, e5, h⟩ := h
    refine g_iald (pc := 16) K e5 dX8_sums_16 ?_
    refine g_iconst (pc := 17) (v := 1) K dX8_sums_17 (by decide) ?_
    refine g_icmp_ne (pc := 18) K 81 dX8_sums_18 (by decide) (fun c7 => ?_) (fun c7 => ?_)
    · replace h := (if_pos c7).symm.trans h
      refine g_iconst (pc := 21) (v := 1) K dX8_sums_21 (by decide) ?_
      refine g_iconst (pc := 22) (v := 1) K dX8_sums_22 (by decide) ?_
      replace h := Option.bind_eq_some_iff.mp h
      obtain ⟨x9, e8, h⟩ := h
      refine g_callS (pc := 23) (st := []) K [I_ 1, I_ 1] (c_X8_add _ _ _ _ _ _ e8) tb_516 tb_514 tb_7 tb_515 hd_X8_add ⟨Nat.le_of_ble_eq_true rfl, Nat.le_of_ble_eq_true rfl⟩ rfl (sw_rm (Nat.le_of_ble_eq_true rfl)) ⟨by show _ ≤ 0; omega, by show _ ≤ 0; omega⟩ dX8_sums_23 ?_
      refine g_aload_n (pc := 26) K 0 rfl rfl dX8_sums_26 ?_
      replace h := Option.bind_eq_some_iff.mp h
      obtain ⟨r10, e11, h⟩ := h
      refine g_getR (pc := 27) K cl_8 hin_X8 (k := 19) (by decide) tb_537 rfl e11 dX8_sums_27 ?_
      refine g_iload_n (pc := 30) K 1 rfl rfl dX8_sums_30 ?_
      replace h := Option.bind_eq_some_iff.mp h
      obtain ⟨a12, rfl, h⟩ := h
      replace h := Option.bind_eq_some_iff.mp h
      obtain ⟨x14, e13, h⟩ := h
      refine g_iald (pc := 31) K e13 dX8_sums_31 ?_
      replace h := Option.bind_eq_some_iff.mp h
      obtain ⟨x16, e15, h⟩ := h
      refine g_callS (pc := 32) (st := []) K [I_ x9, I_ x14] (c_X8_add _ _ _ _ _ _ e15) tb_516 tb_514 tb_7 tb_515 hd_X8_add ⟨Nat.le_of_ble_eq_true rfl, Nat.le_of_ble_eq_true rfl⟩ rfl (sw_rm (Nat.le_of_ble_eq_true rfl)) ⟨by show _ ≤ 0; omega, by show _ ≤ 0; omega⟩ dX8_sums_32 ?_
      refine g_istore_n (pc := 35) K [(2, I_ x16), (0, P_ (some v0)), (1, I_ v1)] rfl (by decide) rfl dX8_sums_35 ?_
      refine g_iconst (pc := 36) (v := 0) K dX8_sums_36 (by decide) ?_
      refine g_istore_n (pc := 37) K [(3, I_ 0), (2, I_ x16), (0, P_ (some v0)), (1, I_ v1)] rfl (by decide) rfl dX8_sums_37 ?_
      refine g_sub K [2, 3, 1, 0] rfl ?_
      exact wl_X8_sums_38 K hT hrec7  1000 _ _ _ _ _ _ _ h (by omega) (by omega)
    · replace h := (if_neg c7).symm.trans h
      refine g_sub K [0, 1] rfl ?_
      exact w_X8_sums_81 K hT hrec7  _ _ _ _ _ h (by omega) (by omega)
def b_X8_sums_7  : Nat → Nat → Int32 → sw_S → Option sw_S
  | 0 => fun _ _ _ => none
  | n + 1 => B_X8_sums_7 (b_X8_sums_7  n)
theorem wl_X8_sums_7 {p : Program} {l : Launch} {e : Env} {s : State} {m : MethodId} {args : Array Value} {below : List Frame} {meth : Method} {c : Code} {Q : State → Prop} {A : Nat → Prop} {D : va_G} {cT : Nat → ClassId} {σ' : sw_S}  (K : sw_C p s m args c cX8_sums 4 RX8 A D cT) (hT : sw_Tv cX8_sums p l e (sw_R 2 0 0 45) s m args below meth c Q 4 A D cT 0 0 σ') : ∀ (n : Nat) (v0 : Nat) (v1 : Int32) (σ : sw_S) (ce sl : Nat), b_X8_sums_7  n v0 v1 σ = some σ' → ce + (0) ≤ 0 → sl + (0) ≤ 0 → sw_G p l e (sw_R 2 0 0 45) s m args below meth c Q 4 A D cT σ ce sl 7 [(0, P_ (some v0)), (1, I_ v1)] [] := by
  intro n
  induction n with
  | zero =>
    intro v0 v1 σ ce sl h
    exact absurd (show none = some σ' from h) (by simp)
  | succ n ih =>
    intro v0 v1 σ ce sl h hce hsl
    exact wB_X8_sums_7 K hT (fun _ _ _ _ _ h h1 h2 => ih _ _ _ _ _ h h1 h2) _ _ _ _ _ h hce hsl
def f_X8_sums (p0 : Nat) (σ : sw_S) : Option sw_S :=
  (sw_gI 8 p0 16 σ).bind fun x1 =>
  b_X8_sums_7 1000 p0 ((x1 - 1)) σ
set_option maxHeartbeats 4000000 in
set_option maxRecDepth 100000 in
theorem c_X8_sums  (l : Launch) (D : va_G) (cT : Nat → ClassId) (p0 : Nat) (σ : sw_S) {σ' : sw_S} (h : f_X8_sums p0 σ = some σ') : sw_M l D cT yX8_sums cX8_sums 4 none 2 45 0 0 σ [P_ (some p0)] none σ' := by
  refine sw_met_v (by decide) (Nat.le_of_ble_eq_true rfl) (fun p e s m args below meth c A Q K hnm hT => ?_)
  have hce : 0 + 0 ≤ 0 := Nat.le_of_ble_eq_true rfl
  have hsl : 0 + 0 ≤ 0 := Nat.le_of_ble_eq_true rfl
  unfold f_X8_sums at h
  change sw_G p l e (sw_R 2 0 0 45) s m args below meth c Q 4 A D cT σ 0 0 0 [(0, P_ (some p0))] []
  refine g_aload_n (pc := 0) K 0 rfl rfl dX8_sums_0 ?_
  replace h := Option.bind_eq_some_iff.mp h
  obtain ⟨x1, e2, h⟩ := h
  refine g_getI (pc := 1) K cl_8 hin_X8 (k := 16) (by decide) tb_534 rfl e2 dX8_sums_1 ?_
  refine g_iconst (pc := 4) (v := 1) K dX8_sums_4 (by decide) ?_
  refine g_isub (pc := 5) K dX8_sums_5 ?_
  refine g_istore_n (pc := 6) K [(1, I_ ((x1 - 1))), (0, P_ (some p0))] rfl (by decide) rfl dX8_sums_6 ?_
  refine g_sub K [1, 0] rfl ?_
  exact wl_X8_sums_7 K hT  1000 _ _ _ _ _ h (by omega) (by omega)

def b_X8_spans_125 (rec20 : Nat → Int32 → sw_S → Option sw_S) (v0 : Nat) (v1 : Int32) (σ : sw_S) : Option sw_S :=
  rec20 v0 ((v1 + 1)) σ
set_option maxHeartbeats 4000000 in
set_option maxRecDepth 100000 in
theorem w_X8_spans_125 {p : Program} {l : Launch} {e : Env} {s : State} {m : MethodId} {args : Array Value} {below : List Frame} {meth : Method} {c : Code} {Q : State → Prop} {A : Nat → Prop} {D : va_G} {cT : Nat → ClassId} {σ' : sw_S}  (K : sw_C p s m args c cX8_spans 4 RX8 A D cT) (hT : sw_Tv cX8_spans p l e (sw_R 0 0 0 0) s m args below meth c Q 4 A D cT 0 0 σ') {rec20 : Nat → Int32 → sw_S → Option sw_S} (hrec20 : ∀ (v0 : Nat) (v1 : Int32) (σ : sw_S) (ce sl : Nat), rec20 v0 v1 σ = some σ' → ce + (0) ≤ 0 → sl + (0) ≤ 0 → sw_G p l e (sw_R 0 0 0 0) s m args below meth c Q 4 A D cT σ ce sl 20 [(0, P_ (some v0)), (1, I_ v1)] []) (v0 : Nat) (v1 : Int32) (σ : sw_S)  (ce sl : Nat) (h : b_X8_spans_125 rec20 v0 v1 σ = some σ') (hce : ce + (0) ≤ 0) (hsl : sl + (0) ≤ 0) : sw_G p l e (sw_R 0 0 0 0) s m args below meth c Q 4 A D cT σ ce sl 125 [(0, P_ (some v0)), (1, I_ v1)] [] := by
  unfold b_X8_spans_125 at h
  refine g_iinc (pc := 125) K 1 (v1 + 1) [(1, I_ ((v1 + 1))), (0, P_ (some v0))] rfl rfl (by decide) rfl dX8_spans_125 ?_
  refine g_goto (pc := 128) (tgt := 20) K dX8_spans_128 (by decide) ?_
  refine g_sub K [1, 0] rfl ?_
  exact hrec20 _ _ _ _ _ h (by omega) (by omega)
def b_X8_spans_119 (rec20 : Nat → Int32 → sw_S → Option sw_S) (rec34 : Nat → Int32 → Int32 → Int32 → sw_S → Option sw_S) (v0 : Nat) (v1 : Int32) (v2 : Int32) (v3 : Int32) (σ : sw_S) : Option sw_S :=
  rec34 v0 v1 v2 ((v3 + 1)) σ
set_option maxHeartbeats 4000000 in
set_option maxRecDepth 100000 in
theorem w_X8_spans_119 {p : Program} {l : Launch} {e : Env} {s : State} {m : MethodId} {args : Array Value} {below : List Frame} {meth : Method} {c : Code} {Q : State → Prop} {A : Nat → Prop} {D : va_G} {cT : Nat → ClassId} {σ' : sw_S}  (K : sw_C p s m args c cX8_spans 4 RX8 A D cT) (hT : sw_Tv cX8_spans p l e (sw_R 0 0 0 0) s m args below meth c Q 4 A D cT 0 0 σ') {rec20 : Nat → Int32 → sw_S → Option sw_S} {rec34 : Nat → Int32 → Int32 → Int32 → sw_S → Option sw_S} (hrec20 : ∀ (v0 : Nat) (v1 : Int32) (σ : sw_S) (ce sl : Nat), rec20 v0 v1 σ = some σ' → ce + (0) ≤ 0 → sl + (0) ≤ 0 → sw_G p l e (sw_R 0 0 0 0) s m args below meth c Q 4 A D cT σ ce sl 20 [(0, P_ (some v0)), (1, I_ v1)] []) (hrec34 : ∀ (v0 : Nat) (v1 : Int32) (v2 : Int32) (v3 : Int32) (σ : sw_S) (ce sl : Nat), rec34 v0 v1 v2 v3 σ = some σ' → ce + (0) ≤ 0 → sl + (0) ≤ 0 → sw_G p l e (sw_R 0 0 0 0) s m args below meth c Q 4 A D cT σ ce sl 34 [(0, P_ (some v0)), (1, I_ v1), (2, I_ v2), (3, I_ v3)] []) (v0 : Nat) (v1 : Int32) (v2 : Int32) (v3 : Int32) (σ : sw_S)  (ce sl : Nat) (h : b_X8_spans_119 rec20 rec34 v0 v1 v2 v3 σ = some σ') (hce : ce + (0) ≤ 0) (hsl : sl + (0) ≤ 0) : sw_G p l e (sw_R 0 0 0 0) s m args below meth c Q 4 A D cT σ ce sl 119 [(0, P_ (some v0)), (1, I_ v1), (2, I_ v2), (3, I_ v3)] [] := by
  unfold b_X8_spans_119 at h
  refine g_iinc (pc := 119) K 3 (v3 + 1) [(3, I_ ((v3 + 1))), (0, P_ (some v0)), (1, I_ v1), (2, I_ v2)] rfl rfl (by decide) rfl dX8_spans_119 ?_
  refine g_goto (pc := 122) (tgt := 34) K dX8_spans_122 (by decide) ?_
  refine g_sub K [1, 2, 3, 0] rfl ?_
  exact hrec34 _ _ _ _ _ _ _ h (by omega) (by omega)
def b_X8_spans_105 (rec20 : Nat → Int32 → sw_S → Option sw_S) (rec34 : Nat → Int32 → Int32 → Int32 → sw_S → Option sw_S) (v0 : Nat) (v1 : Int32) (v3 : Int32) (σ : sw_S) : Option sw_S :=
  (sw_gR 8 v0 25 σ).bind fun r1 =>
  (sw_gR 8 v0 25 σ).bind fun r3 =>
  r3.bind fun a5 =>
  (sw_jl a5 v1 σ).bind fun x7 =>
  r1.bind fun a8 =>
  (sw_js a8 v3 x7 σ).bind fun σ10 =>
  b_X8_spans_119 rec20 rec34 v0 v1 v3 v3 σ10
set_option maxHeartbeats 4000000 in
set_option maxRecDepth 100000 in
theorem w_X8_spans_105 {p : Program} {l : Launch} {e : Env} {s : State} {m : MethodId} {args : Array Value} {below : List Frame} {meth : Method} {c : Code} {Q : State → Prop} {A : Nat → Prop} {D : va_G} {cT : Nat → ClassId} {σ' : sw_S}  (K : sw_C p s m args c cX8_spans 4 RX8 A D cT) (hT : sw_Tv cX8_spans p l e (sw_R 0 0 0 0) s m args below meth c Q 4 A D cT 0 0 σ') {rec20 : Nat → Int32 → sw_S → Option sw_S} {rec34 : Nat → Int32 → Int32 → Int32 → sw_S → Option sw_S} (hrec20 : ∀ (v0 : Nat) (v1 : Int32) (σ : sw_S) (ce sl : Nat), rec20 v0 v1 σ = some σ' → ce + (0) ≤ 0 → sl + (0) ≤ 0 → sw_G p l e (sw_R 0 0 0 0) s m args below meth c Q 4 A D cT σ ce sl 20 [(0, P_ (some v0)), (1, I_ v1)] []) (hrec34 : ∀ (v0 : Nat) (v1 : Int32) (v2 : Int32) (v3 : Int32) (σ : sw_S) (ce sl : Nat), rec34 v0 v1 v2 v3 σ = some σ' → ce + (0) ≤ 0 → sl + (0) ≤ 0 → sw_G p l e (sw_R 0 0 0 0) s m args below meth c Q 4 A D cT σ ce sl 34 [(0, P_ (some v0)), (1, I_ v1), (2, I_ v2), (3, I_ v3)] []) (v0 : Nat) (v1 : Int32) (v3 : Int32) (σ : sw_S)  (ce sl : Nat) (h : b_X8_spans_105 rec20 rec34 v0 v1 v3 σ = some σ') (hce : ce + (0) ≤ 0) (hsl : sl + (0) ≤ 0) : sw_G p l e (sw_R 0 0 0 0) s m args below meth c Q 4 A D cT σ ce sl 105 [(0, P_ (some v0)), (1, I_ v1), (3, I_ v3)] [] := by
  unfold b_X8_spans_105 at h
  refine g_aload_n (pc := 105) K 0 rfl rfl dX8_spans_105 ?_
  replace h := Option.bind_eq_some_iff.mp h
  obtain ⟨r1, e2, h⟩ := h
  refine g_getR (pc := 106) K cl_8 hin_X8 (k := 25) (by decide) tb_543 rfl e2 dX8_spans_106 ?_
  refine g_iload_n (pc := 109) K 2 rfl rfl dX8_spans_109 ?_
  refine g_aload_n (pc := 110) K 0 rfl rfl dX8_spans_110 ?_
  replace h := Option.bind_eq_some_iff.mp h
  obtain ⟨r3, e4, h⟩ := h
  refine g_getR (pc := 111) K cl_8 hin_X8 (k := 25) (by decide) tb_543 rfl e4 dX8_spans_111 ?_
  refine g_iload_n (pc := 114) K 1 rfl rfl dX8_spans_114 ?_
  replace h := Option.bind_eq_some_iff.mp h
  obtain ⟨a5, rfl, h⟩ := h
  replace h := Option.bind_eq_some_iff.mp h
  obtain ⟨x7, e6, h⟩ := h
  refine g_jald (pc := 115) K e6 dX8_spans_115 ?_
  replace h := Option.bind_eq_some_iff.mp h
  obtain ⟨a8, rfl, h⟩ := h
  replace h := Option.bind_eq_some_iff.mp h
  obtain ⟨σ10, e9, h⟩ := h
  refine g_jast (pc := 116) K e9 dX8_spans_116 ?_
  refine g_iload_n (pc := 117) K 2 rfl rfl dX8_spans_117 ?_
  refine g_istore_n (pc := 118) K [(2, I_ v3), (0, P_ (some v0)), (1, I_ v1), (3, I_ v3)] rfl (by decide) rfl dX8_spans_118 ?_
  refine g_sub K [1, 2, 0, 3] rfl ?_
  exact w_X8_spans_119 K hT hrec20 hrec34  _ _ _ _ _ _ _ h (by omega) (by omega)
def b_X8_spans_87 (rec20 : Nat → Int32 → sw_S → Option sw_S) (rec34 : Nat → Int32 → Int32 → Int32 → sw_S → Option sw_S) (v0 : Nat) (v1 : Int32) (v2 : Int32) (v3 : Int32) (t0 : Int64) (t1 : Int32) (t2 : Option Nat) (σ : sw_S) : Option sw_S :=
  t2.bind fun a1 =>
  (sw_js a1 t1 t0 σ).bind fun σ3 =>
  (if v2 < 0 then
  b_X8_spans_105 rec20 rec34 v0 v1 v3 σ3
  else
  (sw_gR 8 v0 25 σ3).bind fun r5 =>
  (sw_gR 8 v0 21 σ3).bind fun r7 =>
  r7.bind fun a9 =>
  (sw_al 0 a9 v3 σ3).bind fun x11 =>
  r5.bind fun a12 =>
  (sw_js a12 v2 ((Int32.toInt64 x11)) σ3).bind fun σ14 =>
  b_X8_spans_105 rec20 rec34 v0 v1 v3 σ14)
set_option maxHeartbeats 4000000 in
set_option maxRecDepth 100000 in
theorem w_X8_spans_87 {p : Program} {l : Launch} {e : Env} {s : State} {m : MethodId} {args : Array Value} {below : List Frame} {meth : Method} {c : Code} {Q : State → Prop} {A : Nat → Prop} {D : va_G} {cT : Nat → ClassId} {σ' : sw_S}  (K : sw_C p s m args c cX8_spans 4 RX8 A D cT) (hT : sw_Tv cX8_spans p l e (sw_R 0 0 0 0) s m args below meth c Q 4 A D cT 0 0 σ') {rec20 : Nat → Int32 → sw_S → Option sw_S} {rec34 : Nat → Int32 → Int32 → Int32 → sw_S → Option sw_S} (hrec20 : ∀ (v0 : Nat) (v1 : Int32) (σ : sw_S) (ce sl : Nat), rec20 v0 v1 σ = some σ' → ce + (0) ≤ 0 → sl + (0) ≤ 0 → sw_G p l e (sw_R 0 0 0 0) s m args below meth c Q 4 A D cT σ ce sl 20 [(0, P_ (some v0)), (1, I_ v1)] []) (hrec34 : ∀ (v0 : Nat) (v1 : Int32) (v2 : Int32) (v3 : Int32) (σ : sw_S) (ce sl : Nat), rec34 v0 v1 v2 v3 σ = some σ' → ce + (0) ≤ 0 → sl + (0) ≤ 0 → sw_G p l e (sw_R 0 0 0 0) s m args below meth c Q 4 A D cT σ ce sl 34 [(0, P_ (some v0)), (1, I_ v1), (2, I_ v2), (3, I_ v3)] []) (v0 : Nat) (v1 : Int32) (v2 : Int32) (v3 : Int32) (t0 : Int64) (t1 : Int32) (t2 : Option Nat) (σ : sw_S)  (ce sl : Nat) (h : b_X8_spans_87 rec20 rec34 v0 v1 v2 v3 t0 t1 t2 σ = some σ') (hce : ce + (0) ≤ 0) (hsl : sl + (0) ≤ 0) : sw_G p l e (sw_R 0 0 0 0) s m args below meth c Q 4 A D cT σ ce sl 87 [(0, P_ (some v0)), (1, I_ v1), (2, I_ v2), (3, I_ v3)] [J_ t0, I_ t1, P_ t2] := by
  unfold b_X8_spans_87 at h
  replace h := Option.bind_eq_some_iff.mp h
  obtain ⟨a1, rfl, h⟩ := h
  replace h := Option.bind_eq_some_iff.mp h
  obtain ⟨σ3, e2, h⟩ := h
  refine g_jast (pc := 87) K e2 dX8_spans_87 ?_
  refine g_iload_n (pc := 88) K 2 rfl rfl dX8_spans_88 ?_
  refine g_if_lt (pc := 89) K 105 dX8_spans_89 (by decide) (fun c4 => ?_) (fun c4 => ?_)
  · replace h := (if_pos c4).symm.trans h
    refine g_sub K [0, 1, 3] rfl ?_
    exact w_X8_spans_105 K hT hrec20 hrec34  _ _ _ _ _ _ h (by omega) (by omega)
  · replace h := (if_neg c4).symm.trans h
    refine g_aload_n (pc := 92) K 0 rfl rfl dX8_spans_92 ?_
    replace h := Option.bind_eq_some_iff.mp h
    obtain ⟨r5, e6, h⟩ := h
    refine g_getR (pc := 93) K cl_8 hin_X8 (k := 25) (by decide) tb_543 rfl e6 dX8_spans_93 ?_
    refine g_iload_n (pc := 96) K 2 rfl rfl dX8_spans_96 ?_
    refine g_aload_n (pc := 97) K 0 rfl rfl dX8_spans_97 ?_
    replace h := Option.bind_eq_some_iff.mp h
    obtain ⟨r7, e8, h⟩ := h
    refine g_getR (pc := 98) K cl_8 hin_X8 (k := 21) (by decide) tb_539 rfl e8 dX8_spans_98 ?_
    refine g_iload_n (pc := 101) K 3 rfl rfl dX8_spans_101 ?_
    replace h := Option.bind_eq_some_iff.mp h
    obtain ⟨a9, rfl, h⟩ := h
    replace h := Option.bind_eq_some_iff.mp h
    obtain ⟨x11, e10, h⟩ := h
    refine g_iald (pc := 102) K e10 dX8_spans_102 ?_
    refine g_i2l (pc := 103) K dX8_spans_103 ?_
    replace h := Option.bind_eq_some_iff.mp h
    obtain ⟨a12, rfl, h⟩ := h
    replace h := Option.bind_eq_some_iff.mp h
    obtain ⟨σ14, e13, h⟩ := h
    refine g_jast (pc := 104) K e13 dX8_spans_104 ?_
    refine g_sub K [0, 1, 3] rfl ?_
    exact w_X8_spans_105 K hT hrec20 hrec34  _ _ _ _ _ _ h (by omega) (by omega)
def B_X8_spans_34 (rec20 : Nat → Int32 → sw_S → Option sw_S) (rec34 : Nat → Int32 → Int32 → Int32 → sw_S → Option sw_S) (v0 : Nat) (v1 : Int32) (v2 : Int32) (v3 : Int32) (σ : sw_S) : Option sw_S :=
  (sw_gI 8 v0 16 σ).bind fun x1 =>
  (if x1 ≤ v3 then
  b_X8_spans_125 rec20 v0 v1 σ
  else
  (sw_gR 8 v0 17 σ).bind fun r4 =>
  r4.bind fun a6 =>
  (sw_al 0 a6 v1 σ).bind fun x8 =>
  (if x8 = 2 then
  (sw_gR 8 v0 18 σ).bind fun r10 =>
  r10.bind fun a12 =>
  (sw_al 0 a12 v3 σ).bind fun x14 =>
  (if x14 = v1 then
  (sw_gR 8 v0 24 σ).bind fun r16 =>
  (if 0 ≤ v2 then
  (sw_gR 8 v0 21 σ).bind fun r19 =>
  r19.bind fun a21 =>
  (sw_al 0 a21 v3 σ).bind fun x23 =>
  b_X8_spans_87 rec20 rec34 v0 v1 v2 v3 ((Int32.toInt64 x23)) v3 r16 σ
  else
  (sw_gR 8 v0 24 σ).bind fun r24 =>
  r24.bind fun a26 =>
  (sw_jl a26 v1 σ).bind fun x28 =>
  b_X8_spans_87 rec20 rec34 v0 v1 v2 v3 x28 v3 r16 σ)
  else
  b_X8_spans_119 rec20 rec34 v0 v1 v2 v3 σ)
  else
  b_X8_spans_125 rec20 v0 v1 σ))
set_option maxHeartbeats 4000000 in
set_option maxRecDepth 100000 in
theorem wB_X8_spans_34 {p : Program} {l : Launch} {e : Env} {s : State} {m : MethodId} {args : Array Value} {below : List Frame} {meth : Method} {c : Code} {Q : State → Prop} {A : Nat → Prop} {D : va_G} {cT : Nat → ClassId} {σ' : sw_S}  (K : sw_C p s m args c cX8_spans 4 RX8 A D cT) (hT : sw_Tv cX8_spans p l e (sw_R 0 0 0 0) s m args below meth c Q 4 A D cT 0 0 σ') {rec20 : Nat → Int32 → sw_S → Option sw_S} {rec34 : Nat → Int32 → Int32 → Int32 → sw_S → Option sw_S} (hrec20 : ∀ (v0 : Nat) (v1 : Int32) (σ : sw_S) (ce sl : Nat), rec20 v0 v1 σ = some σ' → ce + (0) ≤ 0 → sl + (0) ≤ 0 → sw_G p l e (sw_R 0 0 0 0) s m args below meth c Q 4 A D cT σ ce sl 20 [(0, P_ (some v0)), (1, I_ v1)] []) (hrec34 : ∀ (v0 : Nat) (v1 : Int32) (v2 : Int32) (v3 : Int32) (σ : sw_S) (ce sl : Nat), rec34 v0 v1 v2 v3 σ = some σ' → ce + (0) ≤ 0 → sl + (0) ≤ 0 → sw_G p l e (sw_R 0 0 0 0) s m args below meth c Q 4 A D cT σ ce sl 34 [(0, P_ (some v0)), (1, I_ v1), (2, I_ v2), (3, I_ v3)] []) (v0 : Nat) (v1 : Int32) (v2 : Int32) (v3 : Int32) (σ : sw_S)  (ce sl : Nat) (h : B_X8_spans_34 rec20 rec34 v0 v1 v2 v3 σ = some σ') (hce : ce + (0) ≤ 0) (hsl : sl + (0) ≤ 0) : sw_G p l e (sw_R 0 0 0 0) s m args below meth c Q 4 A D cT σ ce sl 34 [(0, P_ (some v0)), (1, I_ v1), (2, I_ v2), (3, I_ v3)] [] := by
  unfold B_X8_spans_34 at h
  refine g_iload_n (pc := 34) K 3 rfl rfl dX8_spans_34 ?_
  refine g_aload_n (pc := 35) K 0 rfl rfl dX8_spans_35 ?_
  replace h := Option.bind_eq_some_iff.mp h
  obtain ⟨x1, e2, h⟩ := h
  refine g_getI (pc := 36) K cl_8 hin_X8 (k := 16) (by decide) tb_534 rfl e2 dX8_spans_36 ?_
  refine g_icmp_ge (pc := 39) K 125 dX8_spans_39 (by decide) (fun c3 => ?_) (fun c3 => ?_)
  · replace h := (if_pos c3).symm.trans h
    refine g_sub K [0, 1] rfl ?_
    exact w_X8_spans_125 K hT hrec20  _ _ _ _ _ h (by omega) (by omega)
  · replace h := (if_neg c3).symm.trans h
    refine g_aload_n (pc := 42) K 0 rfl rfl dX8_spans_42 ?_
    replace h := Option.bind_eq_some_iff.mp h
    obtain ⟨r4, e5, h⟩ := h
    refine g_getR (pc := 43) K cl_8 hin_X8 (k := 17) (by decide) tb_535 rfl e5 dX8_spans_43 ?_
    refine g_iload_n (pc := 46) K 1 rfl rfl dX8_spans_46 ?_
    replace h := Option.bind_eq_some_iff.mp h
    obtain ⟨a6, rfl, h⟩ := h
    replace h := Option.bind_eq_some_iff.mp h
    obtain ⟨x8, e7, h⟩ := h
    refine g_iald (pc := 47) K e7 dX8_spans_47 ?_
    refine g_iconst (pc := 48) (v := 2) K dX8_spans_48 (by decide) ?_
    refine g_icmp_ne (pc := 49) K 125 dX8_spans_49 (by decide) (fun c9 => ?_) (fun c9 => ?_)
    · replace h := (if_pos c9).symm.trans h
      refine g_aload_n (pc := 52) K 0 rfl rfl dX8_spans_52 ?_
      replace h := Option.bind_eq_some_iff.mp h
      obtain ⟨r10, e11, h⟩ := h
      refine g_getR (pc := 53) K cl_8 hin_X8 (k := 18) (by decide) tb_536 rfl e11 dX8_spans_53 ?_
      refine g_iload_n (pc := 56) K 3 rfl rfl dX8_spans_56 ?_
      replace h := Option.bind_eq_some_iff.mp h
      obtain ⟨a12, rfl, h⟩ := h
      replace h := Option.bind_eq_some_iff.mp h
      obtain ⟨x14, e13, h⟩ := h
      refine g_iald (pc := 57) K e13 dX8_spans_57 ?_
      refine g_iload_n (pc := 58) K 1 rfl rfl dX8_spans_58 ?_
      refine g_icmp_ne (pc := 59) K 119 dX8_spans_59 (by decide) (fun c15 => ?_) (fun c15 => ?_)
      · replace h := (if_pos c15).symm.trans h
        refine g_aload_n (pc := 62) K 0 rfl rfl dX8_spans_62 ?_
        replace h := Option.bind_eq_some_iff.mp h
        obtain ⟨r16, e17, h⟩ := h
        refine g_getR (pc := 63) K cl_8 hin_X8 (k := 24) (by decide) tb_542 rfl e17 dX8_spans_63 ?_
        refine g_iload_n (pc := 66) K 3 rfl rfl dX8_spans_66 ?_
        refine g_iload_n (pc := 67) K 2 rfl rfl dX8_spans_67 ?_
        refine g_if_ge (pc := 68) K 80 dX8_spans_68 (by decide) (fun c18 => ?_) (fun c18 => ?_)
        · replace h := (if_pos c18).symm.trans h
          refine g_aload_n (pc := 80) K 0 rfl rfl dX8_spans_80 ?_
          replace h := Option.bind_eq_some_iff.mp h
          obtain ⟨r19, e20, h⟩ := h
          refine g_getR (pc := 81) K cl_8 hin_X8 (k := 21) (by decide) tb_539 rfl e20 dX8_spans_81 ?_
          refine g_iload_n (pc := 84) K 3 rfl rfl dX8_spans_84 ?_
          replace h := Option.bind_eq_some_iff.mp h
          obtain ⟨a21, rfl, h⟩ := h
          replace h := Option.bind_eq_some_iff.mp h
          obtain ⟨x23, e22, h⟩ := h
          refine g_iald (pc := 85) K e22 dX8_spans_85 ?_
          refine g_i2l (pc := 86) K dX8_spans_86 ?_
          refine g_sub K [0, 1, 2, 3] rfl ?_
          exact w_X8_spans_87 K hT hrec20 hrec34  _ _ _ _ _ _ _ _ _ _ h (by omega) (by omega)
        · replace h := (if_neg c18).symm.trans h
          refine g_aload_n (pc := 71) K 0 rfl rfl dX8_spans_71 ?_
          replace h := Option.bind_eq_some_iff.mp h
          obtain ⟨r24, e25, h⟩ := h
          refine g_getR (pc := 72) K cl_8 hin_X8 (k := 24) (by decide) tb_542 rfl e25 dX8_spans_72 ?_
          refine g_iload_n (pc := 75) K 1 rfl rfl dX8_spans_75 ?_
          replace h := Option.bind_eq_some_iff.mp h
          obtain ⟨a26, rfl, h⟩ := h
          replace h := Option.bind_eq_some_iff.mp h
          obtain ⟨x28, e27, h⟩ := h
          refine g_jald (pc := 76) K e27 dX8_spans_76 ?_
          refine g_goto (pc := 77) (tgt := 87) K dX8_spans_77 (by decide) ?_
          refine g_sub K [0, 1, 2, 3] rfl ?_
          exact w_X8_spans_87 K hT hrec20 hrec34  _ _ _ _ _ _ _ _ _ _ h (by omega) (by omega)
      · replace h := (if_neg c15).symm.trans h
        refine g_sub K [0, 1, 2, 3] rfl ?_
        exact w_X8_spans_119 K hT hrec20 hrec34  _ _ _ _ _ _ _ h (by omega) (by omega)
    · replace h := (if_neg c9).symm.trans h
      refine g_sub K [0, 1] rfl ?_
      exact w_X8_spans_125 K hT hrec20  _ _ _ _ _ h (by omega) (by omega)
def b_X8_spans_34 (rec20 : Nat → Int32 → sw_S → Option sw_S) : Nat → Nat → Int32 → Int32 → Int32 → sw_S → Option sw_S
  | 0 => fun _ _ _ _ _ => none
  | n + 1 => B_X8_spans_34 rec20 (b_X8_spans_34 rec20 n)
theorem wl_X8_spans_34 {p : Program} {l : Launch} {e : Env} {s : State} {m : MethodId} {args : Array Value} {below : List Frame} {meth : Method} {c : Code} {Q : State → Prop} {A : Nat → Prop} {D : va_G} {cT : Nat → ClassId} {σ' : sw_S}  (K : sw_C p s m args c cX8_spans 4 RX8 A D cT) (hT : sw_Tv cX8_spans p l e (sw_R 0 0 0 0) s m args below meth c Q 4 A D cT 0 0 σ') {rec20 : Nat → Int32 → sw_S → Option sw_S} (hrec20 : ∀ (v0 : Nat) (v1 : Int32) (σ : sw_S) (ce sl : Nat), rec20 v0 v1 σ = some σ' → ce + (0) ≤ 0 → sl + (0) ≤ 0 → sw_G p l e (sw_R 0 0 0 0) s m args below meth c Q 4 A D cT σ ce sl 20 [(0, P_ (some v0)), (1, I_ v1)] []) : ∀ (n : Nat) (v0 : Nat) (v1 : Int32) (v2 : Int32) (v3 : Int32) (σ : sw_S) (ce sl : Nat), b_X8_spans_34 rec20 n v0 v1 v2 v3 σ = some σ' → ce + (0) ≤ 0 → sl + (0) ≤ 0 → sw_G p l e (sw_R 0 0 0 0) s m args below meth c Q 4 A D cT σ ce sl 34 [(0, P_ (some v0)), (1, I_ v1), (2, I_ v2), (3, I_ v3)] [] := by
  intro n
  induction n with
  | zero =>
    intro v0 v1 v2 v3 σ ce sl h
    exact absurd (show none = some σ' from h) (by simp)
  | succ n ih =>
    intro v0 v1 v2 v3 σ ce sl h hce hsl
    exact wB_X8_spans_34 K hT hrec20 (fun _ _ _ _ _ _ _ h h1 h2 => ih _ _ _ _ _ _ _ h h1 h2) _ _ _ _ _ _ _ h hce hsl
def B_X8_spans_20 (rec20 : Nat → Int32 → sw_S → Option sw_S) (v0 : Nat) (v1 : Int32) (σ : sw_S) : Option sw_S :=
  (sw_gI 8 v0 16 σ).bind fun x1 =>
  (if x1 ≤ v1 then
  some σ
  else
  b_X8_spans_34 rec20 1000 v0 v1 ((-1)) ((v1 + 1)) σ)
set_option maxHeartbeats 4000000 in
set_option maxRecDepth 100000 in
theorem wB_X8_spans_20 {p : Program} {l : Launch} {e : Env} {s : State} {m : MethodId} {args : Array Value} {below : List Frame} {meth : Method} {c : Code} {Q : State → Prop} {A : Nat → Prop} {D : va_G} {cT : Nat → ClassId} {σ' : sw_S}  (K : sw_C p s m args c cX8_spans 4 RX8 A D cT) (hT : sw_Tv cX8_spans p l e (sw_R 0 0 0 0) s m args below meth c Q 4 A D cT 0 0 σ') {rec20 : Nat → Int32 → sw_S → Option sw_S} (hrec20 : ∀ (v0 : Nat) (v1 : Int32) (σ : sw_S) (ce sl : Nat), rec20 v0 v1 σ = some σ' → ce + (0) ≤ 0 → sl + (0) ≤ 0 → sw_G p l e (sw_R 0 0 0 0) s m args below meth c Q 4 A D cT σ ce sl 20 [(0, P_ (some v0)), (1, I_ v1)] []) (v0 : Nat) (v1 : Int32) (σ : sw_S)  (ce sl : Nat) (h : B_X8_spans_20 rec20 v0 v1 σ = some σ') (hce : ce + (0) ≤ 0) (hsl : sl + (0) ≤ 0) : sw_G p l e (sw_R 0 0 0 0) s m args below meth c Q 4 A D cT σ ce sl 20 [(0, P_ (some v0)), (1, I_ v1)] [] := by
  unfold B_X8_spans_20 at h
  refine g_iload_n (pc := 20) K 1 rfl rfl dX8_spans_20 ?_
  refine g_aload_n (pc := 21) K 0 rfl rfl dX8_spans_21 ?_
  replace h := Option.bind_eq_some_iff.mp h
  obtain ⟨x1, e2, h⟩ := h
  refine g_getI (pc := 22) K cl_8 hin_X8 (k := 16) (by decide) tb_534 rfl e2 dX8_spans_22 ?_
  refine g_icmp_ge (pc := 25) K 131 dX8_spans_25 (by decide) (fun c3 => ?_) (fun c3 => ?_)
  · replace h := (if_pos c3).symm.trans h
    cases h
    exact hT _ _ 131 _ (by omega) (by omega) dX8_spans_131
  · replace h := (if_neg c3).symm.trans h
    refine g_iconst (pc := 28) (v := (-1)) K dX8_spans_28 (by decide) ?_
    refine g_istore_n (pc := 29) K [(2, I_ ((-1))), (0, P_ (some v0)), (1, I_ v1)] rfl (by decide) rfl dX8_spans_29 ?_
    refine g_iload_n (pc := 30) K 2 rfl rfl dX8_spans_30 ?_
    refine g_iconst (pc := 31) (v := 1) K dX8_spans_31 (by decide) ?_
    refine g_iadd (pc := 32) K dX8_spans_32 ?_
    refine g_istore_n (pc := 33) K [(3, I_ ((v1 + 1))), (2, I_ ((-1))), (0, P_ (some v0)), (1, I_ v1)] rfl (by decide) rfl dX8_spans_33 ?_
    refine g_sub K [2, 3, 1, 0] rfl ?_
    exact wl_X8_spans_34 K hT hrec20  1000 _ _ _ _ _ _ _ h (by omega) (by omega)
def b_X8_spans_20  : Nat → Nat → Int32 → sw_S → Option sw_S
  | 0 => fun _ _ _ => none
  | n + 1 => B_X8_spans_20 (b_X8_spans_20  n)
theorem wl_X8_spans_20 {p : Program} {l : Launch} {e : Env} {s : State} {m : MethodId} {args : Array Value} {below : List Frame} {meth : Method} {c : Code} {Q : State → Prop} {A : Nat → Prop} {D : va_G} {cT : Nat → ClassId} {σ' : sw_S}  (K : sw_C p s m args c cX8_spans 4 RX8 A D cT) (hT : sw_Tv cX8_spans p l e (sw_R 0 0 0 0) s m args below meth c Q 4 A D cT 0 0 σ') : ∀ (n : Nat) (v0 : Nat) (v1 : Int32) (σ : sw_S) (ce sl : Nat), b_X8_spans_20  n v0 v1 σ = some σ' → ce + (0) ≤ 0 → sl + (0) ≤ 0 → sw_G p l e (sw_R 0 0 0 0) s m args below meth c Q 4 A D cT σ ce sl 20 [(0, P_ (some v0)), (1, I_ v1)] [] := by
  intro n
  induction n with
  | zero =>
    intro v0 v1 σ ce sl h
    exact absurd (show none = some σ' from h) (by simp)
  | succ n ih =>
    intro v0 v1 σ ce sl h hce hsl
    exact wB_X8_spans_20 K hT (fun _ _ _ _ _ h h1 h2 => ih _ _ _ _ _ h h1 h2) _ _ _ _ _ h hce hsl
def f_X8_spans (p0 : Nat) (σ : sw_S) : Option sw_S :=
  (sw_gR 8 p0 24 σ).bind fun r1 =>
  r1.bind fun a3 =>
  (sw_js a3 0 ((-1099511627776)) σ).bind fun σ5 =>
  (sw_gR 8 p0 25 σ5).bind fun r6 =>
  r6.bind fun a8 =>
  (sw_js a8 0 1099511627776 σ5).bind fun σ10 =>
  b_X8_spans_20 1000 p0 0 σ10
set_option maxHeartbeats 4000000 in
set_option maxRecDepth 100000 in
theorem c_X8_spans  (l : Launch) (D : va_G) (cT : Nat → ClassId) (p0 : Nat) (σ : sw_S) {σ' : sw_S} (h : f_X8_spans p0 σ = some σ') : sw_M l D cT yX8_spans cX8_spans 4 none 0 0 0 0 σ [P_ (some p0)] none σ' := by
  refine sw_met_v (by decide) (Nat.le_of_ble_eq_true rfl) (fun p e s m args below meth c A Q K hnm hT => ?_)
  have hce : 0 + 0 ≤ 0 := Nat.le_of_ble_eq_true rfl
  have hsl : 0 + 0 ≤ 0 := Nat.le_of_ble_eq_true rfl
  unfold f_X8_spans at h
  change sw_G p l e (sw_R 0 0 0 0) s m args below meth c Q 4 A D cT σ 0 0 0 [(0, P_ (some p0))] []
  refine g_aload_n (pc := 0) K 0 rfl rfl dX8_spans_0 ?_
  replace h := Option.bind_eq_some_iff.mp h
  obtain ⟨r1, e2, h⟩ := h
  refine g_getR (pc := 1) K cl_8 hin_X8 (k := 24) (by decide) tb_542 rfl e2 dX8_spans_1 ?_
  refine g_iconst (pc := 4) (v := 0) K dX8_spans_4 (by decide) ?_
  refine g_ldc2 (pc := 5) (v := (-1099511627776)) K tb_684 dX8_spans_5 ?_
  replace h := Option.bind_eq_some_iff.mp h
  obtain ⟨a3, rfl, h⟩ := h
  replace h := Option.bind_eq_some_iff.mp h
  obtain ⟨σ5, e4, h⟩ := h
  refine g_jast (pc := 8) K e4 dX8_spans_8 ?_
  refine g_aload_n (pc := 9) K 0 rfl rfl dX8_spans_9 ?_
  replace h := Option.bind_eq_some_iff.mp h
  obtain ⟨r6, e7, h⟩ := h
  refine g_getR (pc := 10) K cl_8 hin_X8 (k := 25) (by decide) tb_543 rfl e7 dX8_spans_10 ?_
  refine g_iconst (pc := 13) (v := 0) K dX8_spans_13 (by decide) ?_
  refine g_ldc2 (pc := 14) (v := 1099511627776) K tb_685 dX8_spans_14 ?_
  replace h := Option.bind_eq_some_iff.mp h
  obtain ⟨a8, rfl, h⟩ := h
  replace h := Option.bind_eq_some_iff.mp h
  obtain ⟨σ10, e9, h⟩ := h
  refine g_jast (pc := 17) K e9 dX8_spans_17 ?_
  refine g_iconst (pc := 18) (v := 0) K dX8_spans_18 (by decide) ?_
  refine g_istore_n (pc := 19) K [(1, I_ 0), (0, P_ (some p0))] rfl (by decide) rfl dX8_spans_19 ?_
  refine g_sub K [1, 0] rfl ?_
  exact wl_X8_spans_20 K hT  1000 _ _ _ _ _ h (by omega) (by omega)
