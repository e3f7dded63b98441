def b_X8_get_20 (t0 : Int32) (σ : sw_S) : Option Int32 :=
  some t0
set_option maxHeartbeats 4000000 in
set_option maxRecDepth 100000 in
theorem w_X8_get_20 {p : Program} {l : Launch} {e : Env} {s : State} {m : MethodId} {args : Array Value} {below : List Frame} {meth : Method} {c : Code} {Q : State → Prop} {A : Nat → Prop} {D : va_G} {cT : Nat → ClassId} {σ : sw_S}  {r : Int32}  (K : sw_C p s m args c cX8_get 3 RX8 A D cT) (hT : sw_Ti cX8_get p l e (sw_R 2 0 0 44) s m args below meth c Q 3 A D cT 0 0 σ r) (t0 : Int32) (ce sl : Nat) (h : b_X8_get_20 t0 σ = some r) (hce : ce + (0) ≤ 0) (hsl : sl + (0) ≤ 0) : sw_G p l e (sw_R 2 0 0 44) s m args below meth c Q 3 A D cT σ ce sl 20 [] [I_ t0] := by
  unfold b_X8_get_20 at h
  cases h
  exact hT _ _ 20 _ (by omega) (by omega) dX8_get_20
def f_X8_get (p0 : Nat) (q1 : Int32) (σ : sw_S) : Option Int32 :=
  (sw_ob 8 p0 σ).bind fun f1 =>
  (f_X8_find p0 q1 σ).bind fun x4 =>
  (if 0 ≤ x4 then
  (sw_gR 8 p0 4 σ).bind fun r6 =>
  r6.bind fun a8 =>
  (sw_al 0 a8 x4 σ).bind fun x10 =>
  b_X8_get_20 x10 σ
  else
  b_X8_get_20 0 σ)
set_option maxHeartbeats 4000000 in
set_option maxRecDepth 100000 in
theorem c_X8_get  (l : Launch) (D : va_G) (cT : Nat → ClassId) (p0 : Nat) (q1 : Int32) (σ : sw_S) {r : Int32} (h : f_X8_get p0 q1 σ = some r) : sw_M l D cT yX8_get cX8_get 3 (some .int) 2 44 0 0 σ [P_ (some p0), I_ q1] (some (I_ r)) σ := by
  refine sw_met_i (by decide) (Nat.le_of_ble_eq_true rfl) (fun p e s m args below meth c A Q K hnm hT => ?_)
  have hce : 0 + 0 ≤ 0 := Nat.le_of_ble_eq_true rfl
  have hsl : 0 + 0 ≤ 0 := Nat.le_of_ble_eq_true rfl
  unfold f_X8_get at h
  change sw_G p l e (sw_R 2 0 0 44) s m args below meth c Q 3 A D cT σ 0 0 0 [(0, P_ (some p0)), (1, I_ q1)] []
  refine g_aload_n (pc := 0) K 0 rfl rfl dX8_get_0 ?_
  refine g_iload_n (pc := 1) K 1 rfl rfl dX8_get_1 ?_
  replace h := Option.bind_eq_some_iff.mp h
  obtain ⟨f1, e2, h⟩ := h
  replace h := Option.bind_eq_some_iff.mp h
  obtain ⟨x4, e3, h⟩ := h
  refine g_callV (pc := 2) (st := []) K [I_ q1] (c_X8_find _ _ _ _ _ _ e3) e2 cl_8 rfl tb_623 tb_620 tb_7 tb_622 sl_28 hd_X8_find ⟨Nat.le_of_ble_eq_true rfl, Nat.le_of_ble_eq_true rfl⟩ rfl (sw_rm (Nat.le_of_ble_eq_true rfl)) ⟨by show _ ≤ 0; omega, by show _ ≤ 0; omega⟩ dX8_get_2 ?_
  refine g_istore_n (pc := 5) K [(2, I_ x4), (0, P_ (some p0)), (1, I_ q1)] rfl (by decide) rfl dX8_get_5 ?_
  refine g_iload_n (pc := 6) K 0 rfl rfl dX8_get_6 ?_
  refine g_if_ge (pc := 7) K 14 dX8_get_7 (by decide) (fun c5 => ?_) (fun c5 => ?_)
  · replace h := (if_pos c5).symm.trans h
    refine g_aload_n (pc := 14) K 1 rfl rfl dX8_get_14 ?_
    replace h := Option.bind_eq_some_iff.mp h
    obtain ⟨r6, e7, h⟩ := h
    refine g_getR (pc := 15) K cl_8 hin_X8 (k := 4) (by decide) tb_522 rfl e7 dX8_get_15 ?_
    refine g_iload_n (pc := 18) K 0 rfl rfl dX8_get_18 ?_
    replace h := Option.bind_eq_some_iff.mp h
    obtain ⟨a8, rfl, h⟩ := h
    replace h := Option.bind_eq_some_iff.mp h
    obtain ⟨x10, e9, h⟩ := h
    refine g_iald (pc := 19) K e9 dX8_get_19 ?_
    refine g_sub K [] rfl ?_
    exact w_X8_get_20 K hT  _ _ _ h (by omega) (by omega)
  · replace h := (if_neg c5).symm.trans h
    refine g_iconst (pc := 10) (v := 0) K dX8_get_10 (by decide) ?_
    refine g_goto (pc := 11) (tgt := 20) K dX8_get_11 (by decide) ?_
    refine g_sub K [] rfl ?_
    exact w_X8_get_20 K hT  _ _ _ h (by omega) (by omega)

def f_X8_size (p0 : Nat) (σ : sw_S) : Option Int32 :=
  (sw_gI 8 p0 2 σ).bind fun x1 =>
  some x1
set_option maxHeartbeats 4000000 in
set_option maxRecDepth 100000 in
theorem c_X8_size  (l : Launch) (D : va_G) (cT : Nat → ClassId) (p0 : Nat) (σ : sw_S) {r : Int32} (h : f_X8_size p0 σ = some r) : sw_M l D cT yX8_size cX8_size 1 (some .int) 0 0 0 0 σ [P_ (some p0)] (some (I_ r)) σ := by
  refine sw_met_i (by decide) (Nat.le_of_ble_eq_true rfl) (fun p e s m args below meth c A Q K hnm hT => ?_)
  have hce : 0 + 0 ≤ 0 := Nat.le_of_ble_eq_true rfl
  have hsl : 0 + 0 ≤ 0 := Nat.le_of_ble_eq_true rfl
  unfold f_X8_size at h
  change sw_G p l e (sw_R 0 0 0 0) s m args below meth c Q 1 A D cT σ 0 0 0 [(0, P_ (some p0))] []
  refine g_aload_n (pc := 0) K 0 rfl rfl dX8_size_0 ?_
  replace h := Option.bind_eq_some_iff.mp h
  obtain ⟨x1, e2, h⟩ := h
  refine g_getI (pc := 1) K cl_8 hin_X8 (k := 2) (by decide) tb_520 rfl e2 dX8_size_1 ?_
  cases h
  exact hT _ _ 4 _ (by omega) (by omega) dX8_size_4

def f_X8_height (p0 : Nat) (σ : sw_S) : Option Int32 :=
  (sw_gI 8 p0 5 σ).bind fun x1 =>
  some x1
set_option maxHeartbeats 4000000 in
set_option maxRecDepth 100000 in
theorem c_X8_height  (l : Launch) (D : va_G) (cT : Nat → ClassId) (p0 : Nat) (σ : sw_S) {r : Int32} (h : f_X8_height p0 σ = some r) : sw_M l D cT yX8_height cX8_height 1 (some .int) 0 0 0 0 σ [P_ (some p0)] (some (I_ r)) σ := by
  refine sw_met_i (by decide) (Nat.le_of_ble_eq_true rfl) (fun p e s m args below meth c A Q K hnm hT => ?_)
  have hce : 0 + 0 ≤ 0 := Nat.le_of_ble_eq_true rfl
  have hsl : 0 + 0 ≤ 0 := Nat.le_of_ble_eq_true rfl
  unfold f_X8_height at h
  change sw_G p l e (sw_R 0 0 0 0) s m args below meth c Q 1 A D cT σ 0 0 0 [(0, P_ (some p0))] []
  refine g_aload_n (pc := 0) K 0 rfl rfl dX8_height_0 ?_
  replace h := Option.bind_eq_some_iff.mp h
  obtain ⟨x1, e2, h⟩ := h
  refine g_getI (pc := 1) K cl_8 hin_X8 (k := 5) (by decide) tb_523 rfl e2 dX8_height_1 ?_
  cases h
  exact hT _ _ 4 _ (by omega) (by omega) dX8_height_4

def b_X8_within_43 (rec5 : Nat → Int32 → Int32 → Int32 → Int32 → sw_S → Option Int32) (v0 : Nat) (v1 : Int32) (v2 : Int32) (v4 : Int32) (t0 : Int32) (σ : sw_S) : Option Int32 :=
  rec5 v0 v1 v2 t0 ((v4 + 1)) σ
set_option maxHeartbeats 4000000 in
set_option maxRecDepth 100000 in
theorem w_X8_within_43 {p : Program} {l : Launch} {e : Env} {s : State} {m : MethodId} {args : Array Value} {below : List Frame} {meth : Method} {c : Code} {Q : State → Prop} {A : Nat → Prop} {D : va_G} {cT : Nat → ClassId} {σ : sw_S}  {r : Int32}  (K : sw_C p s m args c cX8_within 5 RX8 A D cT) (hT : sw_Ti cX8_within p l e (sw_R 0 0 0 0) s m args below meth c Q 5 A D cT 0 0 σ r) {rec5 : Nat → Int32 → Int32 → Int32 → Int32 → sw_S → Option Int32} (hrec5 : ∀ (v0 : Nat) (v1 : Int32) (v2 : Int32) (v3 : Int32) (v4 : Int32) (ce sl : Nat), rec5 v0 v1 v2 v3 v4 σ = some r → ce + (0) ≤ 0 → sl + (0) ≤ 0 → sw_G p l e (sw_R 0 0 0 0) s m args below meth c Q 5 A D cT σ ce sl 5 [(0, P_ (some v0)), (1, I_ v1), (2, I_ v2), (3, I_ v3), (4, I_ v4)] []) (v0 : Nat) (v1 : Int32) (v2 : Int32) (v4 : Int32) (t0 : Int32) (ce sl : Nat) (h : b_X8_within_43 rec5 v0 v1 v2 v4 t0 σ = some r) (hce : ce + (0) ≤ 0) (hsl : sl + (0) ≤ 0) : sw_G p l e (sw_R 0 0 0 0) s m args below meth c Q 5 A D cT σ ce sl 43 [(0, P_ (some v0)), (1, I_ v1), (2, I_ v2), (4, I_ v4)] [I_ t0] := by
  unfold b_X8_within_43 at h
  refine g_istore_n (pc := 43) K [(3, I_ t0), (0, P_ (some v0)), (1, I_ v1), (2, I_ v2), (4, I_ v4)] rfl (by decide) rfl dX8_within_43 ?_
  refine g_iinc (pc := 44) K 4 (v4 + 1) [(4, I_ ((v4 + 1))), (3, I_ t0), (0, P_ (some v0)), (1, I_ v1), (2, I_ v2)] rfl rfl (by decide) rfl dX8_within_44 ?_
  refine g_goto (pc := 47) (tgt := 5) K dX8_within_47 (by decide) ?_
  refine g_sub K [2, 3, 4, 1, 0] rfl ?_
  exact hrec5 _ _ _ _ _ _ _ h (by omega) (by omega)
def b_X8_within_42 (rec5 : Nat → Int32 → Int32 → Int32 → Int32 → sw_S → Option Int32) (v0 : Nat) (v1 : Int32) (v2 : Int32) (v3 : Int32) (v4 : Int32) (σ : sw_S) : Option Int32 :=
  b_X8_within_43 rec5 v0 v1 v2 v4 v3 σ
set_option maxHeartbeats 4000000 in
set_option maxRecDepth 100000 in
theorem w_X8_within_42 {p : Program} {l : Launch} {e : Env} {s : State} {m : MethodId} {args : Array Value} {below : List Frame} {meth : Method} {c : Code} {Q : State → Prop} {A : Nat → Prop} {D : va_G} {cT : Nat → ClassId} {σ : sw_S}  {r : Int32}  (K : sw_C p s m args c cX8_within 5 RX8 A D cT) (hT : sw_Ti cX8_within p l e (sw_R 0 0 0 0) s m args below meth c Q 5 A D cT 0 0 σ r) {rec5 : Nat → Int32 → Int32 → Int32 → Int32 → sw_S → Option Int32} (hrec5 : ∀ (v0 : Nat) (v1 : Int32) (v2 : Int32) (v3 : Int32) (v4 : Int32) (ce sl : Nat), rec5 v0 v1 v2 v3 v4 σ = some r → ce + (0) ≤ 0 → sl + (0) ≤ 0 → sw_G p l e (sw_R 0 0 0 0) s m args below meth c Q 5 A D cT σ ce sl 5 [(0, P_ (some v0)), (1, I_ v1), (2, I_ v2), (3, I_ v3), (4, I_ v4)] []) (v0 : Nat) (v1 : Int32) (v2 : Int32) (v3 : Int32) (v4 : Int32) (ce sl : Nat) (h : b_X8_within_42 rec5 v0 v1 v2 v3 v4 σ = some r) (hce : ce + (0) ≤ 0) (hsl : sl + (0) ≤ 0) : sw_G p l e (sw_R 0 0 0 0) s m args below meth c Q 5 A D cT σ ce sl 42 [(0, P_ (some v0)), (1, I_ v1), (2, I_ v2), (3, I_ v3), (4, I_ v4)] [] := by
  unfold b_X8_within_42 at h
  refine g_iload_n (pc := 42) K 3 rfl rfl dX8_within_42 ?_
  refine g_sub K [0, 1, 2, 4] rfl ?_
  exact w_X8_within_43 K hT hrec5  _ _ _ _ _ _ _ h (by omega) (by omega)
def B_X8_within_5 (rec5 : Nat → Int32 → Int32 → Int32 → Int32 → sw_S → Option Int32) (v0 : Nat) (v1 : Int32) (v2 : Int32) (v3 : Int32) (v4 : Int32) (σ : sw_S) : Option Int32 :=
  (sw_gI 8 v0 2 σ).bind fun x1 =>
  (if x1 ≤ v4 then
  some v3
  else
  (sw_gR 8 v0 3 σ).bind fun r4 =>
  r4.bind fun a6 =>
  (sw_al 0 a6 v4 σ).bind fun x8 =>
  (if x8 < v1 then
  b_X8_within_42 rec5 v0 v1 v2 v3 v4 σ
  else
  (sw_gR 8 v0 3 σ).bind fun r10 =>
  r10.bind fun a12 =>
  (sw_al 0 a12 v4 σ).bind fun x14 =>
  (if v2 < x14 then
  b_X8_within_42 rec5 v0 v1 v2 v3 v4 σ
  else
  b_X8_within_43 rec5 v0 v1 v2 v4 ((v3 + 1)) σ)))
set_option maxHeartbeats 4000000 in
set_option maxRecDepth 100000 in
theorem wB_X8_within_5 {p : Program} {l : Launch} {e : Env} {s : State} {m : MethodId} {args : Array Value} {below : List Frame} {meth : Method} {c : Code} {Q : State → Prop} {A : Nat → Prop} {D : va_G} {cT : Nat → ClassId} {σ : sw_S}  {r : Int32}  (K : sw_C p s m args c cX8_within 5 RX8 A D cT) (hT : sw_Ti cX8_within p l e (sw_R 0 0 0 0) s m args below meth c Q 5 A D cT 0 0 σ r) {rec5 : Nat → Int32 → Int32 → Int32 → Int32 → sw_S → Option Int32} (hrec5 : ∀ (v0 : Nat) (v1 : Int32) (v2 : Int32) (v3 : Int32) (v4 : Int32) (ce sl : Nat), rec5 v0 v1 v2 v3 v4 σ = some r → ce + (0) ≤ 0 → sl + (0) ≤ 0 → sw_G p l e (sw_R 0 0 0 0) s m args below meth c Q 5 A D cT σ ce sl 5 [(0, P_ (some v0)), (1, I_ v1), (2, I_ v2), (3, I_ v3), (4, I_ v4)] []) (v0 : Nat) (v1 : Int32) (v2 : Int32) (v3 : Int32) (v4 : Int32) (ce sl : Nat) (h : B_X8_within_5 rec5 v0 v1 v2 v3 v4 σ = some r) (hce : ce + (0) ≤ 0) (hsl : sl + (0) ≤ 0) : sw_G p l e (sw_R 0 0 0 0) s m args below meth c Q 5 A D cT σ ce sl 5 [(0, P_ (some v0)), (1, I_ v1), (2, I_ v2), (3, I_ v3), (4, I_ v4)] [] := by
  unfold B_X8_within_5 at h
  refine g_iload (pc := 5) K 4 rfl dX8_within_5 ?_
  refine g_aload_n (pc := 7) K 0 rfl rfl dX8_within_7 ?_
  replace h := Option.bind_eq_some_iff.mp h
  obtain ⟨x1, e2, h⟩ := h
  refine g_getI (pc := 8) K cl_8 hin_X8 (k := 2) (by decide) tb_520 rfl e2 dX8_within_8 ?_
  refine g_icmp_ge (pc := 11) K 50 dX8_within_11 (by decide) (fun c3 => ?_) (fun c3 => ?_)
  · replace h := (if_pos c3).symm.trans h
    refine g_iload_n (pc := 50) K 3 rfl rfl dX8_within_50 ?_
    cases h
    exact hT _ _ 51 _ (by omega) (by omega) dX8_within_51
  · replace h := (if_neg c3).symm.trans h
    refine g_aload_n (pc := 14) K 0 rfl rfl dX8_within_14 ?_
    replace h := Option.bind_eq_some_iff.mp h
    obtain ⟨r4, e5, h⟩ := h
    refine g_getR (pc := 15) K cl_8 hin_X8 (k := 3) (by decide) tb_521 rfl e5 dX8_within_15 ?_
    refine g_iload (pc := 18) K 4 rfl dX8_within_18 ?_
    replace h := Option.bind_eq_some_iff.mp h
    obtain ⟨a6, rfl, h⟩ := h
    replace h := Option.bind_eq_some_iff.mp h
    obtain ⟨x8, e7, h⟩ := h
    refine g_iald (pc := 20) K e7 dX8_within_20 ?_
    refine g_iload_n (pc := 21) K 1 rfl rfl dX8_within_21 ?_
    refine g_icmp_lt (pc := 22) K 42 dX8_within_22 (by decide) (fun c9 => ?_) (fun c9 => ?_)
    · replace h := (if_pos c9).symm.trans h
      refine g_sub K [0, 1, 2, 3, 4] rfl ?_
      exact w_X8_within_42 K hT hrec5  _ _ _ _ _ _ _ h (by omega) (by omega)
    · replace h := (if_neg c9).symm.trans h
      refine g_aload_n (pc := 25) K 0 rfl rfl dX8_within_25 ?_
      replace h := Option.bind_eq_some_iff.mp h
      obtain ⟨r10, e11, h⟩ := h
      refine g_getR (pc := 26) K cl_8 hin_X8 (k := 3) (by decide) tb_521 rfl e11 dX8_within_26 ?_
      refine g_iload (pc := 29) K 4 rfl dX8_within_29 ?_
      replace h := Option.bind_eq_some_iff.mp h
      obtain ⟨a12, rfl, h⟩ := h
      replace h := Option.bind_eq_some_iff.mp h
      obtain ⟨x14, e13, h⟩ := h
      refine g_iald (pc := 31) K e13 dX8_within_31 ?_
      refine g_iload_n (pc := 32) K 2 rfl rfl dX8_within_32 ?_
      refine g_icmp_gt (pc := 33) K 42 dX8_within_33 (by decide) (fun c15 => ?_) (fun c15 => ?_)
      · replace h := (if_pos c15).symm.trans h
        refine g_sub K [0, 1, 2, 3, 4] rfl ?_
        exact w_X8_within_42 K hT hrec5  _ _ _ _ _ _ _ h (by omega) (by omega)
      · replace h := (if_neg c15).symm.trans h
        refine g_iload_n (pc := 36) K 3 rfl rfl dX8_within_36 ?_
        refine g_iconst (pc := 37) (v := 1) K dX8_within_37 (by decide) ?_
        refine g_iadd (pc := 38) K dX8_within_38 ?_
        refine g_goto (pc := 39) (tgt := 43) K dX8_within_39 (by decide) ?_
        refine g_sub K [0, 1, 2, 4] rfl ?_
        exact w_X8_within_43 K hT hrec5  _ _ _ _ _ _ _ h (by omega) (by omega)
def b_X8_within_5  : Nat → Nat → Int32 → Int32 → Int32 → Int32 → sw_S → Option Int32
  | 0 => fun _ _ _ _ _ _ => none
  | n + 1 => B_X8_within_5 (b_X8_within_5  n)
theorem wl_X8_within_5 {p : Program} {l : Launch} {e : Env} {s : State} {m : MethodId} {args : Array Value} {below : List Frame} {meth : Method} {c : Code} {Q : State → Prop} {A : Nat → Prop} {D : va_G} {cT : Nat → ClassId} {σ : sw_S}  {r : Int32}  (K : sw_C p s m args c cX8_within 5 RX8 A D cT) (hT : sw_Ti cX8_within p l e (sw_R 0 0 0 0) s m args below meth c Q 5 A D cT 0 0 σ r) : ∀ (n : Nat) (v0 : Nat) (v1 : Int32) (v2 : Int32) (v3 : Int32) (v4 : Int32) (ce sl : Nat), b_X8_within_5  n v0 v1 v2 v3 v4 σ = some r → ce + (0) ≤ 0 → sl + (0) ≤ 0 → sw_G p l e (sw_R 0 0 0 0) s m args below meth c Q 5 A D cT σ ce sl 5 [(0, P_ (some v0)), (1, I_ v1), (2, I_ v2), (3, I_ v3), (4, I_ v4)] [] := by
  intro n
  induction n with
  | zero =>
    intro v0 v1 v2 v3 v4 ce sl h
    exact absurd (show none = some r from h) (by simp)
  | succ n ih =>
    intro v0 v1 v2 v3 v4 ce sl h hce hsl
    exact wB_X8_within_5 K hT (fun _ _ _ _ _ _ _ h h1 h2 => ih _ _ _ _ _ _ _ h h1 h2) _ _ _ _ _ _ _ h hce hsl
def f_X8_within (p0 : Nat) (q1 : Int32) (q2 : Int32) (σ : sw_S) : Option Int32 :=
  b_X8_within_5 1000 p0 q1 q2 0 0 σ
set_option maxHeartbeats 4000000 in
set_option maxRecDepth 100000 in
theorem c_X8_within  (l : Launch) (D : va_G) (cT : Nat → ClassId) (p0 : Nat) (q1 : Int32) (q2 : Int32) (σ : sw_S) {r : Int32} (h : f_X8_within p0 q1 q2 σ = some r) : sw_M l D cT yX8_within cX8_within 5 (some .int) 0 0 0 0 σ [P_ (some p0), I_ q1, I_ q2] (some (I_ r)) σ := by
  refine sw_met_i (by decide) (Nat.le_of_ble_eq_true rfl) (fun p e s m args below meth c A Q K hnm hT => ?_)
  have hce : 0 + 0 ≤ 0 := Nat.le_of_ble_eq_true rfl
  have hsl : 0 + 0 ≤ 0 := Nat.le_of_ble_eq_true rfl
  unfold f_X8_within at h
  change sw_G p l e (sw_R 0 0 0 0) s m args below meth c Q 5 A D cT σ 0 0 0 [(0, P_ (some p0)), (1, I_ q1), (2, I_ q2)] []
  refine g_iconst (pc := 0) (v := 0) K dX8_within_0 (by decide) ?_
  refine g_istore_n (pc := 1) K [(3, I_ 0), (0, P_ (some p0)), (1, I_ q1), (2, I_ q2)] rfl (by decide) rfl dX8_within_1 ?_
  refine g_iconst (pc := 2) (v := 0) K dX8_within_2 (by decide) ?_
  refine g_istore (pc := 3) K [(4, I_ 0), (3, I_ 0), (0, P_ (some p0)), (1, I_ q1), (2, I_ q2)] (by decide) rfl dX8_within_3 ?_
  refine g_sub K [2, 3, 4, 1, 0] rfl ?_
  exact wl_X8_within_5 K hT  1000 _ _ _ _ _ _ _ h (by omega) (by omega)

def f_X8_root (p0 : Nat) (σ : sw_S) : Option Int32 :=
  (sw_gR 8 p0 8 σ).bind fun r1 =>
  (sw_gI 8 p0 5 σ).bind fun x3 =>
  r1.bind fun a5 =>
  (sw_al 0 a5 ((64 * ((x3 - 1)))) σ).bind fun x7 =>
  some x7
set_option maxHeartbeats 4000000 in
set_option maxRecDepth 100000 in
theorem c_X8_root  (l : Launch) (D : va_G) (cT : Nat → ClassId) (p0 : Nat) (σ : sw_S) {r : Int32} (h : f_X8_root p0 σ = some r) : sw_M l D cT yX8_root cX8_root 1 (some .int) 0 0 0 0 σ [P_ (some p0)] (some (I_ r)) σ := by
  refine sw_met_i (by decide) (Nat.le_of_ble_eq_true rfl) (fun p e s m args below meth c A Q K hnm hT => ?_)
  have hce : 0 + 0 ≤ 0 := Nat.le_of_ble_eq_true rfl
  have hsl : 0 + 0 ≤ 0 := Nat.le_of_ble_eq_true rfl
  unfold f_X8_root at h
  change sw_G p l e (sw_R 0 0 0 0) s m args below meth c Q 1 A D cT σ 0 0 0 [(0, P_ (some p0))] []
  refine g_aload_n (pc := 0) K 0 rfl rfl dX8_root_0 ?_
  replace h := Option.bind_eq_some_iff.mp h
  obtain ⟨r1, e2, h⟩ := h
  refine g_getR (pc := 1) K cl_8 hin_X8 (k := 8) (by decide) tb_526 rfl e2 dX8_root_1 ?_
  refine g_bipush (pc := 4) (v := 64) K dX8_root_4 (by decide) ?_
  refine g_aload_n (pc := 6) K 0 rfl rfl dX8_root_6 ?_
  replace h := Option.bind_eq_some_iff.mp h
  obtain ⟨x3, e4, h⟩ := h
  refine g_getI (pc := 7) K cl_8 hin_X8 (k := 5) (by decide) tb_523 rfl e4 dX8_root_7 ?_
  refine g_iconst (pc := 10) (v := 1) K dX8_root_10 (by decide) ?_
  refine g_isub (pc := 11) K dX8_root_11 ?_
  refine g_imul (pc := 12) K dX8_root_12 ?_
  replace h := Option.bind_eq_some_iff.mp h
  obtain ⟨a5, rfl, h⟩ := h
  replace h := Option.bind_eq_some_iff.mp h
  obtain ⟨x7, e6, h⟩ := h
  refine g_iald (pc := 13) K e6 dX8_root_13 ?_
  cases h
  exact hT _ _ 14 _ (by omega) (by omega) dX8_root_14

def f_X8_digest (p0 : Nat) (q1 : Int32) (q2 : Int32) (q3 : Int32) (q4 : Int32) (σ : sw_S) : Option Int32 :=
  (f_X8_add q1 q2 σ).bind fun x2 =>
  (f_X8_add x2 q3 σ).bind fun x4 =>
  (f_X8_add x4 q4 σ).bind fun x6 =>
  some x6
set_option maxHeartbeats 4000000 in
set_option maxRecDepth 100000 in
theorem c_X8_digest  (l : Launch) (D : va_G) (cT : Nat → ClassId) (p0 : Nat) (q1 : Int32) (q2 : Int32) (q3 : Int32) (q4 : Int32) (σ : sw_S) {r : Int32} (h : f_X8_digest p0 q1 q2 q3 q4 σ = some r) : sw_M l D cT yX8_digest cX8_digest 5 (some .int) 1 22 0 0 σ [P_ (some p0), I_ q1, I_ q2, I_ q3, I_ q4] (some (I_ r)) σ := by
  refine sw_met_i (by decide) (Nat.le_of_ble_eq_true rfl) (fun p e s m args below meth c A Q K hnm hT => ?_)
  have hce : 0 + 0 ≤ 0 := Nat.le_of_ble_eq_true rfl
  have hsl : 0 + 0 ≤ 0 := Nat.le_of_ble_eq_true rfl
  unfold f_X8_digest at h
  change sw_G p l e (sw_R 1 0 0 22) s m args below meth c Q 5 A D cT σ 0 0 0 [(0, P_ (some p0)), (1, I_ q1), (2, I_ q2), (3, I_ q3), (4, I_ q4)] []
  refine g_iload_n (pc := 0) K 1 rfl rfl dX8_digest_0 ?_
  refine g_iload_n (pc := 1) K 2 rfl rfl dX8_digest_1 ?_
  replace h := Option.bind_eq_some_iff.mp h
  obtain ⟨x2, e1, h⟩ := h
  refine g_callS (pc := 2) (st := []) K [I_ q1, I_ q2] (c_X8_add _ _ _ _ _ _ e1) tb_516 tb_514 tb_7 tb_515 hd_X8_add ⟨Nat.le_of_ble_eq_true rfl, Nat.le_of_ble_eq_true rfl⟩ rfl (sw_rm (Nat.le_of_ble_eq_true rfl)) ⟨by show _ ≤ 0; omega, by show _ ≤ 0; omega⟩ dX8_digest_2 ?_
  refine g_iload_n (pc := 5) K 3 rfl rfl dX8_digest_5 ?_
  replace h := Option.bind_eq_some_iff.mp h
  obtain ⟨x4, e3, h⟩ := h
  refine g_callS (pc := 6) (st := []) K [I_ x2, I_ q3] (c_X8_add _ _ _ _ _ _ e3) tb_516 tb_514 tb_7 tb_515 hd_X8_add ⟨Nat.le_of_ble_eq_true rfl, Nat.le_of_ble_eq_true rfl⟩ rfl (sw_rm (Nat.le_of_ble_eq_true rfl)) ⟨by show _ ≤ 0; omega, by show _ ≤ 0; omega⟩ dX8_digest_6 ?_
  refine g_iload (pc := 9) K 4 rfl dX8_digest_9 ?_
  replace h := Option.bind_eq_some_iff.mp h
  obtain ⟨x6, e5, h⟩ := h
  refine g_callS (pc := 11) (st := []) K [I_ x4, I_ q4] (c_X8_add _ _ _ _ _ _ e5) tb_516 tb_514 tb_7 tb_515 hd_X8_add ⟨Nat.le_of_ble_eq_true rfl, Nat.le_of_ble_eq_true rfl⟩ rfl (sw_rm (Nat.le_of_ble_eq_true rfl)) ⟨by show _ ≤ 0; omega, by show _ ≤ 0; omega⟩ dX8_digest_11 ?_
  cases h
  exact hT _ _ 14 _ (by omega) (by omega) dX8_digest_14

def f_X8_tell (p0 : Nat) (q1 : Int32) (σ : sw_S) : Option sw_S :=
  (sw_gR 8 p0 11 σ).bind fun r1 =>
  (sw_gI 8 p0 12 σ).bind fun x3 =>
  r1.bind fun a5 =>
  (sw_as 0 a5 x3 q1 σ).bind fun σ7 =>
  (sw_gI 8 p0 12 σ7).bind fun x8 =>
  (sw_pt 8 p0 12 (.int ((x8 + 1))) σ7).bind fun σ10 =>
  some σ10
set_option maxHeartbeats 4000000 in
set_option maxRecDepth 100000 in
theorem c_X8_tell  (l : Launch) (D : va_G) (cT : Nat → ClassId) (p0 : Nat) (q1 : Int32) (σ : sw_S) {σ' : sw_S} (h : f_X8_tell p0 q1 σ = some σ') : sw_M l D cT yX8_tell cX8_tell 2 none 0 0 0 0 σ [P_ (some p0), I_ q1] none σ' := by
  refine sw_met_v (by decide) (Nat.le_of_ble_eq_true rfl) (fun p e s m args below meth c A Q K hnm hT => ?_)
  have hce : 0 + 0 ≤ 0 := Nat.le_of_ble_eq_true rfl
  have hsl : 0 + 0 ≤ 0 := Nat.le_of_ble_eq_true rfl
  unfold f_X8_tell at h
  change sw_G p l e (sw_R 0 0 0 0) s m args below meth c Q 2 A D cT σ 0 0 0 [(0, P_ (some p0)), (1, I_ q1)] []
  refine g_aload_n (pc := 0) K 0 rfl rfl dX8_tell_0 ?_
  replace h := Option.bind_eq_some_iff.mp h
  obtain ⟨r1, e2, h⟩ := h
  refine g_getR (pc := 1) K cl_8 hin_X8 (k := 11) (by decide) tb_529 rfl e2 dX8_tell_1 ?_
  refine g_aload_n (pc := 4) K 0 rfl rfl dX8_tell_4 ?_
  replace h := Option.bind_eq_some_iff.mp h
  obtain ⟨x3, e4, h⟩ := h
  refine g_getI (pc := 5) K cl_8 hin_X8 (k := 12) (by decide) tb_530 rfl e4 dX8_tell_5 ?_
  refine g_iload_n (pc := 8) K 1 rfl rfl dX8_tell_8 ?_
  replace h := Option.bind_eq_some_iff.mp h
  obtain ⟨a5, rfl, h⟩ := h
  replace h := Option.bind_eq_some_iff.mp h
  obtain ⟨σ7, e6, h⟩ := h
  refine g_iast (pc := 9) K e6 dX8_tell_9 ?_
  refine g_aload_n (pc := 10) K 0 rfl rfl dX8_tell_10 ?_
  refine g_dup (pc := 11) K rfl dX8_tell_11 ?_
  replace h := Option.bind_eq_some_iff.mp h
  obtain ⟨x8, e9, h⟩ := h
  refine g_getI (pc := 12) K cl_8 hin_X8 (k := 12) (by decide) tb_530 rfl e9 dX8_tell_12 ?_
  refine g_iconst (pc := 15) (v := 1) K dX8_tell_15 (by decide) ?_
  refine g_iadd (pc := 16) K dX8_tell_16 ?_
  replace h := Option.bind_eq_some_iff.mp h
  obtain ⟨σ10, e11, h⟩ := h
  refine g_put (pc := 17) K cl_8 hin_X8 (k := 12) (by decide) tb_530 rfl tyX8 tyX8_ok nmX8 (Or.inl rfl) rfl rfl e11 dX8_tell_17 ?_
  cases h
  exact hT _ _ 20 _ (by omega) (by omega) dX8_tell_20

def b_X8_isLeft_44 (t0 : Int32) (σ : sw_S) : Option Int32 :=
  (sw_z t0).bind fun z1 =>
  some z1
set_option maxHeartbeats 4000000 in
set_option maxRecDepth 100000 in
theorem w_X8_isLeft_44 {p : Program} {l : Launch} {e : Env} {s : State} {m : MethodId} {args : Array Value} {below : List Frame} {meth : Method} {c : Code} {Q : State → Prop} {A : Nat → Prop} {D : va_G} {cT : Nat → ClassId} {σ : sw_S}  {r : Int32}  (K : sw_C p s m args c cX8_isLeft 7 RX8 A D cT) (hT : sw_Tz cX8_isLeft p l e (sw_R 0 0 0 0) s m args below meth c Q 7 A D cT 0 0 σ r) (t0 : Int32) (ce sl : Nat) (h : b_X8_isLeft_44 t0 σ = some r) (hce : ce + (0) ≤ 0) (hsl : sl + (0) ≤ 0) : sw_G p l e (sw_R 0 0 0 0) s m args below meth c Q 7 A D cT σ ce sl 44 [] [I_ t0] := by
  unfold b_X8_isLeft_44 at h
  replace h := Option.bind_eq_some_iff.mp h
  obtain ⟨z1, e2, h⟩ := h
  obtain ⟨rfl, e3⟩ := sw_z_eq e2
  cases h
  exact hT _ _ 44 _ (by omega) (by omega) e3.1 dX8_isLeft_44
def b_X8_isLeft_43 (σ : sw_S) : Option Int32 :=
  b_X8_isLeft_44 0 σ
set_option maxHeartbeats 4000000 in
set_option maxRecDepth 100000 in
theorem w_X8_isLeft_43 {p : Program} {l : Launch} {e : Env} {s : State} {m : MethodId} {args : Array Value} {below : List Frame} {meth : Method} {c : Code} {Q : State → Prop} {A : Nat → Prop} {D : va_G} {cT : Nat → ClassId} {σ : sw_S}  {r : Int32}  (K : sw_C p s m args c cX8_isLeft 7 RX8 A D cT) (hT : sw_Tz cX8_isLeft p l e (sw_R 0 0 0 0) s m args below meth c Q 7 A D cT 0 0 σ r) (ce sl : Nat) (h : b_X8_isLeft_43  σ = some r) (hce : ce + (0) ≤ 0) (hsl : sl + (0) ≤ 0) : sw_G p l e (sw_R 0 0 0 0) s m args below meth c Q 7 A D cT σ ce sl 43 [] [] := by
  unfold b_X8_isLeft_43 at h
  refine g_iconst (pc := 43) (v := 0) K dX8_isLeft_43 (by decide) ?_
  refine g_sub K [] rfl ?_
  exact w_X8_isLeft_44 K hT  _ _ _ h (by omega) (by omega)
def b_X8_isLeft_39 (σ : sw_S) : Option Int32 :=
  b_X8_isLeft_44 1 σ
set_option maxHeartbeats 4000000 in
set_option maxRecDepth 100000 in
theorem w_X8_isLeft_39 {p : Program} {l : Launch} {e : Env} {s : State} {m : MethodId} {args : Array Value} {below : List Frame} {meth : Method} {c : Code} {Q : State → Prop} {A : Nat → Prop} {D : va_G} {cT : Nat → ClassId} {σ : sw_S}  {r : Int32}  (K : sw_C p s m args c cX8_isLeft 7 RX8 A D cT) (hT : sw_Tz cX8_isLeft p l e (sw_R 0 0 0 0) s m args below meth c Q 7 A D cT 0 0 σ r) (ce sl : Nat) (h : b_X8_isLeft_39  σ = some r) (hce : ce + (0) ≤ 0) (hsl : sl + (0) ≤ 0) : sw_G p l e (sw_R 0 0 0 0) s m args below meth c Q 7 A D cT σ ce sl 39 [] [] := by
  unfold b_X8_isLeft_39 at h
  refine g_iconst (pc := 39) (v := 1) K dX8_isLeft_39 (by decide) ?_
  refine g_goto (pc := 40) (tgt := 44) K dX8_isLeft_40 (by decide) ?_
  refine g_sub K [] rfl ?_
  exact w_X8_isLeft_44 K hT  _ _ _ h (by omega) (by omega)
def f_X8_isLeft (q1 : Int64) (q2 : Int64) (q3 : Int32) (q4 : Int32) (q5 : Int32) (σ : sw_S) : Option Int32 :=
  (if 0 < ((lg_cmp q1 ((Int32.toInt64 q4)))) then
  b_X8_isLeft_39  σ
  else
  (if ((lg_cmp q2 ((Int32.toInt64 q3)))) ≤ 0 then
  b_X8_isLeft_39  σ
  else
  (if q5 = 0 then
  b_X8_isLeft_43  σ
  else
  (if ((lg_cmp q1 ((Int32.toInt64 q3)))) < 0 then
  b_X8_isLeft_43  σ
  else
  (if 0 < ((lg_cmp q2 ((((Int32.toInt64 q4)) + 1)))) then
  b_X8_isLeft_43  σ
  else
  b_X8_isLeft_39  σ)))))
set_option maxHeartbeats 4000000 in
set_option maxRecDepth 100000 in
theorem c_X8_isLeft  (l : Launch) (D : va_G) (cT : Nat → ClassId) (q1 : Int64) (q2 : Int64) (q3 : Int32) (q4 : Int32) (q5 : Int32) (σ : sw_S) {r : Int32} (h : f_X8_isLeft q1 q2 q3 q4 q5 σ = some r) : sw_M l D cT yX8_isLeft cX8_isLeft 7 (some .boolean) 0 0 0 0 σ [J_ q1, J_ q2, I_ q3, I_ q4, I_ q5] (some (I_ r)) σ := by
  refine sw_met_z (by decide) (Nat.le_of_ble_eq_true rfl) (fun p e s m args below meth c A Q K hnm hT => ?_)
  have hce : 0 + 0 ≤ 0 := Nat.le_of_ble_eq_true rfl
  have hsl : 0 + 0 ≤ 0 := Nat.le_of_ble_eq_true rfl
  unfold f_X8_isLeft at h
  change sw_G p l e (sw_R 0 0 0 0) s m args below meth c Q 7 A D cT σ 0 0 0 [(0, J_ q1), (2, J_ q2), (4, I_ q3), (5, I_ q4), (6, I_ q5)] []
  refine g_lload_n (pc := 0) K 0 rfl rfl dX8_isLeft_0 ?_
  refine g_iload (pc := 1) K 3 rfl dX8_isLeft_1 ?_
  refine g_i2l (pc := 3) K dX8_isLeft_3 ?_
  refine g_lcmp (pc := 4) K dX8_isLeft_4 ?_
  refine g_if_gt (pc := 5) K 39 dX8_isLeft_5 (by decide) (fun c1 => ?_) (fun c1 => ?_)
  · replace h := (if_pos c1).symm.trans h
    refine g_sub K [] rfl ?_
    exact w_X8_isLeft_39 K hT   _ _ h (by omega) (by omega)
  · replace h := (if_neg c1).symm.trans h
    refine g_lload_n (pc := 8) K 1 rfl rfl dX8_isLeft_8 ?_
    refine g_iload (pc := 9) K 2 rfl dX8_isLeft_9 ?_
    refine g_i2l (pc := 11) K dX8_isLeft_11 ?_
    refine g_lcmp (pc := 12) K dX8_isLeft_12 ?_
    refine g_if_le (pc := 13) K 39 dX8_isLeft_13 (by decide) (fun c2 => ?_) (fun c2 => ?_)
    · replace h := (if_pos c2).symm.trans h
      refine g_sub K [] rfl ?_
      exact w_X8_isLeft_39 K hT   _ _ h (by omega) (by omega)
    · replace h := (if_neg c2).symm.trans h
      refine g_iload (pc := 16) K 4 rfl dX8_isLeft_16 ?_
      refine g_if_eq (pc := 18) K 43 dX8_isLeft_18 (by decide) (fun c3 => ?_) (fun c3 => ?_)
      · replace h := (if_pos c3).symm.trans h
        refine g_sub K [] rfl ?_
        exact w_X8_isLeft_43 K hT   _ _ h (by omega) (by omega)
      · replace h := (if_neg c3).symm.trans h
        refine g_lload_n (pc := 21) K 0 rfl rfl dX8_isLeft_21 ?_
        refine g_iload (pc := 22) K 2 rfl dX8_isLeft_22 ?_
        refine g_i2l (pc := 24) K dX8_isLeft_24 ?_
        refine g_lcmp (pc := 25) K dX8_isLeft_25 ?_
        refine g_if_lt (pc := 26) K 43 dX8_isLeft_26 (by decide) (fun c4 => ?_) (fun c4 => ?_)
        · replace h := (if_pos c4).symm.trans h
          refine g_sub K [] rfl ?_
          exact w_X8_isLeft_43 K hT   _ _ h (by omega) (by omega)
        · replace h := (if_neg c4).symm.trans h
          refine g_lload_n (pc := 29) K 1 rfl rfl dX8_isLeft_29 ?_
          refine g_iload (pc := 30) K 3 rfl dX8_isLeft_30 ?_
          refine g_i2l (pc := 32) K dX8_isLeft_32 ?_
          refine g_lconst (pc := 33) (v := 1) K dX8_isLeft_33 (by decide) ?_
          refine g_ladd (pc := 34) K dX8_isLeft_34 ?_
          refine g_lcmp (pc := 35) K dX8_isLeft_35 ?_
          refine g_if_gt (pc := 36) K 43 dX8_isLeft_36 (by decide) (fun c5 => ?_) (fun c5 => ?_)
          · replace h := (if_pos c5).symm.trans h
            refine g_sub K [] rfl ?_
            exact w_X8_isLeft_43 K hT   _ _ h (by omega) (by omega)
          · replace h := (if_neg c5).symm.trans h
            refine g_sub K [] rfl ?_
            exact w_X8_isLeft_39 K hT   _ _ h (by omega) (by omega)

def B_X8_firstChild_5 (rec5 : Nat → Int32 → Int32 → Int32 → Int32 → sw_S → Option Int32) (v0 : Nat) (v1 : Int32) (v2 : Int32) (v3 : Int32) (v4 : Int32) (σ : sw_S) : Option Int32 :=
  (if v2 ≤ v4 then
  some v3
  else
  (sw_gR 8 v0 6 σ).bind fun r2 =>
  r2.bind fun a4 =>
  (sw_al 0 a4 ((((64 * v1)) + v4)) σ).bind fun x6 =>
  rec5 v0 v1 v2 ((v3 + x6)) ((v4 + 1)) σ)
set_option maxHeartbeats 4000000 in
set_option maxRecDepth 100000 in
theorem wB_X8_firstChild_5 {p : Program} {l : Launch} {e : Env} {s : State} {m : MethodId} {args : Array Value} {below : List Frame} {meth : Method} {c : Code} {Q : State → Prop} {A : Nat → Prop} {D : va_G} {cT : Nat → ClassId} {σ : sw_S}  {r : Int32}  (K : sw_C p s m args c cX8_firstChild 5 RX8 A D cT) (hT : sw_Ti cX8_firstChild p l e (sw_R 0 0 0 0) s m args below meth c Q 5 A D cT 0 0 σ r) {rec5 : Nat → Int32 → Int32 → Int32 → Int32 → sw_S → Option Int32} (hrec5 : ∀ (v0 : Nat) (v1 : Int32) (v2 : Int32) (v3 : Int32) (v4 : Int32) (ce sl : Nat), rec5 v0 v1 v2 v3 v4 σ = some r → ce + (0) ≤ 0 → sl + (0) ≤ 0 → sw_G p l e (sw_R 0 0 0 0) s m args below meth c Q 5 A D cT σ ce sl 5 [(0, P_ (some v0)), (1, I_ v1), (2, I_ v2), (3, I_ v3), (4, I_ v4)] []) (v0 : Nat) (v1 : Int32) (v2 : Int32) (v3 : Int32) (v4 : Int32) (ce sl : Nat) (h : B_X8_firstChild_5 rec5 v0 v1 v2 v3 v4 σ = some r) (hce : ce + (0) ≤ 0) (hsl : sl + (0) ≤ 0) : sw_G p l e (sw_R 0 0 0 0) s m args below meth c Q 5 A D cT σ ce sl 5 [(0, P_ (some v0)), (1, I_ v1), (2, I_ v2), (3, I_ v3), (4, I_ v4)] [] := by
  unfold B_X8_firstChild_5 at h
  refine g_iload (pc := 5) K 4 rfl dX8_firstChild_5 ?_
  refine g_iload_n (pc := 7) K 2 rfl rfl dX8_firstChild_7 ?_
  refine g_icmp_ge (pc := 8) K 32 dX8_firstChild_8 (by decide) (fun c1 => ?_) (fun c1 => ?_)
  · replace h := (if_pos c1).symm.trans h
    refine g_iload_n (pc := 32) K 3 rfl rfl dX8_firstChild_32 ?_
    cases h
    exact hT _ _ 33 _ (by omega) (by omega) dX8_firstChild_33
  · replace h := (if_neg c1).symm.trans h
    refine g_iload_n (pc := 11) K 3 rfl rfl dX8_firstChild_11 ?_
    refine g_aload_n (pc := 12) K 0 rfl rfl dX8_firstChild_12 ?_
    replace h := Option.bind_eq_some_iff.mp h
    obtain ⟨r2, e3, h⟩ := h
    refine g_getR (pc := 13) K cl_8 hin_X8 (k := 6) (by decide) tb_524 rfl e3 dX8_firstChild_13 ?_
    refine g_bipush (pc := 16) (v := 64) K dX8_firstChild_16 (by decide) ?_
    refine g_iload_n (pc := 18) K 1 rfl rfl dX8_firstChild_18 ?_
    refine g_imul (pc := 19) K dX8_firstChild_19 ?_
    refine g_iload (pc := 20) K 4 rfl dX8_firstChild_20 ?_
    refine g_iadd (pc := 22) K dX8_firstChild_22 ?_
    replace h := Option.bind_eq_some_iff.mp h
    obtain ⟨a4, rfl, h⟩ := h
    replace h := Option.bind_eq_some_iff.mp h
    obtain ⟨x6, e5, h⟩ := h
    refine g_iald (pc := 23) K e5 dX8_firstChild_23 ?_
    refine g_iadd (pc := 24) K dX8_firstChild_24 ?_
    refine g_istore_n (pc := 25) K [(3, I_ ((v3 + x6))), (0, P_ (some v0)), (1, I_ v1), (2, I_ v2), (4, I_ v4)] rfl (by decide) rfl dX8_firstChild_25 ?_
    refine g_iinc (pc := 26) K 4 (v4 + 1) [(4, I_ ((v4 + 1))), (3, I_ ((v3 + x6))), (0, P_ (some v0)), (1, I_ v1), (2, I_ v2)] rfl rfl (by decide) rfl dX8_firstChild_26 ?_
    refine g_goto (pc := 29) (tgt := 5) K dX8_firstChild_29 (by decide) ?_
    refine g_sub K [2, 3, 4, 1, 0] rfl ?_
    exact hrec5 _ _ _ _ _ _ _ h (by omega) (by omega)
def b_X8_firstChild_5  : Nat → Nat → Int32 → Int32 → Int32 → Int32 → sw_S → Option Int32
  | 0 => fun _ _ _ _ _ _ => none
  | n + 1 => B_X8_firstChild_5 (b_X8_firstChild_5  n)
theorem wl_X8_firstChild_5 {p : Program} {l : Launch} {e : Env} {s : State} {m : MethodId} {args : Array Value} {below : List Frame} {meth : Method} {c : Code} {Q : State → Prop} {A : Nat → Prop} {D : va_G} {cT : Nat → ClassId} {σ : sw_S}  {r : Int32}  (K : sw_C p s m args c cX8_firstChild 5 RX8 A D cT) (hT : sw_Ti cX8_firstChild p l e (sw_R 0 0 0 0) s m args below meth c Q 5 A D cT 0 0 σ r) : ∀ (n : Nat) (v0 : Nat) (v1 : Int32) (v2 : Int32) (v3 : Int32) (v4 : Int32) (ce sl : Nat), b_X8_firstChild_5  n v0 v1 v2 v3 v4 σ = some r → ce + (0) ≤ 0 → sl + (0) ≤ 0 → sw_G p l e (sw_R 0 0 0 0) s m args below meth c Q 5 A D cT σ ce sl 5 [(0, P_ (some v0)), (1, I_ v1), (2, I_ v2), (3, I_ v3), (4, I_ v4)] [] := by
  intro n
  induction n with
  | zero =>
    intro v0 v1 v2 v3 v4 ce sl h
    exact absurd (show none = some r from h) (by simp)
  | succ n ih =>
    intro v0 v1 v2 v3 v4 ce sl h hce hsl
    exact wB_X8_firstChild_5 K hT (fun _ _ _ _ _ _ _ h h1 h2 => ih _ _ _ _ _ _ _ h h1 h2) _ _ _ _ _ _ _ h hce hsl
def f_X8_firstChild (p0 : Nat) (q1 : Int32) (q2 : Int32) (σ : sw_S) : Option Int32 :=
  b_X8_firstChild_5 1000 p0 q1 q2 0 0 σ
set_option maxHeartbeats 4000000 in
set_option maxRecDepth 100000 in
theorem c_X8_firstChild  (l : Launch) (D : va_G) (cT : Nat → ClassId) (p0 : Nat) (q1 : Int32) (q2 : Int32) (σ : sw_S) {r : Int32} (h : f_X8_firstChild p0 q1 q2 σ = some r) : sw_M l D cT yX8_firstChild cX8_firstChild 5 (some .int) 0 0 0 0 σ [P_ (some p0), I_ q1, I_ q2] (some (I_ r)) σ := by
  refine sw_met_i (by decide) (Nat.le_of_ble_eq_true rfl) (fun p e s m args below meth c A Q K hnm hT => ?_)
  have hce : 0 + 0 ≤ 0 := Nat.le_of_ble_eq_true rfl
  have hsl : 0 + 0 ≤ 0 := Nat.le_of_ble_eq_true rfl
  unfold f_X8_firstChild at h
  change sw_G p l e (sw_R 0 0 0 0) s m args below meth c Q 5 A D cT σ 0 0 0 [(0, P_ (some p0)), (1, I_ q1), (2, I_ q2)] []
  refine g_iconst (pc := 0) (v := 0) K dX8_firstChild_0 (by decide) ?_
  refine g_istore_n (pc := 1) K [(3, I_ 0), (0, P_ (some p0)), (1, I_ q1), (2, I_ q2)] rfl (by decide) rfl dX8_firstChild_1 ?_
  refine g_iconst (pc := 2) (v := 0) K dX8_firstChild_2 (by decide) ?_
  refine g_istore (pc := 3) K [(4, I_ 0), (3, I_ 0), (0, P_ (some p0)), (1, I_ q1), (2, I_ q2)] (by decide) rfl dX8_firstChild_3 ?_
  refine g_sub K [2, 3, 4, 1, 0] rfl ?_
  exact wl_X8_firstChild_5 K hT  1000 _ _ _ _ _ _ _ h (by omega) (by omega)

def b_X8_tellNode_173 (rec116 : Nat → Int32 → Int32 → Int64 → Int64 → Int32 → Int32 → sw_S → Option (Int32 × sw_S)) (v0 : Nat) (v3 : Int32) (v5 : Int32) (v6 : Int64) (v8 : Int64) (v10 : Int32) (v11 : Int32) (v12 : Int32) (t0 : Int64) (t1 : Int32) (t2 : Option Nat) (σ : sw_S) : Option (Int32 × sw_S) :=
  t2.bind fun a1 =>
  (sw_js a1 t1 t0 σ).bind fun σ3 =>
  (sw_gR 8 v0 15 σ3).bind fun r4 =>
  r4.bind fun a6 =>
  (sw_js a6 v10 v8 σ3).bind fun σ8 =>
  (sw_gR 8 v0 3 σ8).bind fun r9 =>
  (sw_gR 8 v0 9 σ8).bind fun r11 =>
  r11.bind fun a13 =>
  (sw_al 0 a13 v12 σ8).bind fun x15 =>
  r9.bind fun a16 =>
  (sw_al 0 a16 x15 σ8).bind fun x18 =>
  rec116 v0 v3 v5 v6 ((Int32.toInt64 x18)) ((v10 + 1)) ((v11 + (-1))) σ8
set_option maxHeartbeats 4000000 in
set_option maxRecDepth 100000 in
theorem w_X8_tellNode_173 {p : Program} {l : Launch} {e : Env} {s : State} {m : MethodId} {args : Array Value} {below : List Frame} {meth : Method} {c : Code} {Q : State → Prop} {A : Nat → Prop} {D : va_G} {cT : Nat → ClassId} {r : Int32}  {σ' : sw_S}  (K : sw_C p s m args c cX8_tellNode 13 RX8 A D cT) (hT : sw_Ti cX8_tellNode p l e (sw_R 1 0 0 24) s m args below meth c Q 13 A D cT 0 0 σ' r) {rec116 : Nat → Int32 → Int32 → Int64 → Int64 → Int32 → Int32 → sw_S → Option (Int32 × sw_S)} (hrec116 : ∀ (v0 : Nat) (v3 : Int32) (v5 : Int32) (v6 : Int64) (v8 : Int64) (v10 : Int32) (v11 : Int32) (σ : sw_S) (ce sl : Nat), rec116 v0 v3 v5 v6 v8 v10 v11 σ = some (r, σ') → ce + (0) ≤ 0 → sl + (0) ≤ 0 → sw_G p l e (sw_R 1 0 0 24) s m args below meth c Q 13 A D cT σ ce sl 116 [(0, P_ (some v0)), (3, I_ v3), (5, I_ v5), (6, J_ v6), (8, J_ v8), (10, I_ v10), (11, I_ v11)] []) (v0 : Nat) (v3 : Int32) (v5 : Int32) (v6 : Int64) (v8 : Int64) (v10 : Int32) (v11 : Int32) (v12 : Int32) (t0 : Int64) (t1 : Int32) (t2 : Option Nat) (σ : sw_S)  (ce sl : Nat) (h : b_X8_tellNode_173 rec116 v0 v3 v5 v6 v8 v10 v11 v12 t0 t1 t2 σ = some (r, σ')) (hce : ce + (0) ≤ 0) (hsl : sl + (0) ≤ 0) : sw_G p l e (sw_R 1 0 0 24) s m args below meth c Q 13 A D cT σ ce sl 173 [(0, P_ (some v0)), (3, I_ v3), (5, I_ v5), (6, J_ v6), (8, J_ v8), (10, I_ v10), (11, I_ v11), (12, I_ v12)] [J_ t0, I_ t1, P_ t2] := by
  unfold b_X8_tellNode_173 at h
  replace h := Option.bind_eq_some_iff.mp h
  obtain ⟨a1, rfl, h⟩ := h
  replace h := Option.bind_eq_some_iff.mp h
  obtain ⟨σ3, e2, h⟩ := h
  refine g_jast (pc := 173) K e2 dX8_tellNode_173 ?_
  refine g_aload_n (pc := 174) K 0 rfl rfl dX8_tellNode_174 ?_
  replace h := Option.bind_eq_some_iff.mp h
  obtain ⟨r4, e5, h⟩ := h
  refine g_getR (pc := 175) K cl_8 hin_X8 (k := 15) (by decide) tb_533 rfl e5 dX8_tellNode_175 ?_
  refine g_iload (pc := 178) K 5 rfl dX8_tellNode_178 ?_
  refine g_lload (pc := 180) K 4 rfl dX8_tellNode_180 ?_
  replace h := Option.bind_eq_some_iff.mp h
  obtain ⟨a6, rfl, h⟩ := h
  replace h := Option.bind_eq_some_iff.mp h
  obtain ⟨σ8, e7, h⟩ := h
  refine g_jast (pc := 182) K e7 dX8_tellNode_182 ?_
  refine g_aload_n (pc := 183) K 0 rfl rfl dX8_tellNode_183 ?_
  replace h := Option.bind_eq_some_iff.mp h
  obtain ⟨r9, e10, h⟩ := h
  refine g_getR (pc := 184) K cl_8 hin_X8 (k := 3) (by decide) tb_521 rfl e10 dX8_tellNode_184 ?_
  refine g_aload_n (pc := 187) K 0 rfl rfl dX8_tellNode_187 ?_
  replace h := Option.bind_eq_some_iff.mp h
  obtain ⟨r11, e12, h⟩ := h
  refine g_getR (pc := 188) K cl_8 hin_X8 (k := 9) (by decide) tb_527 rfl e12 dX8_tellNode_188 ?_
  refine g_iload (pc := 191) K 7 rfl dX8_tellNode_191 ?_
  replace h := Option.bind_eq_some_iff.mp h
  obtain ⟨a13, rfl, h⟩ := h
  replace h := Option.bind_eq_some_iff.mp h
  obtain ⟨x15, e14, h⟩ := h
  refine g_iald (pc := 193) K e14 dX8_tellNode_193 ?_
  replace h := Option.bind_eq_some_iff.mp h
  obtain ⟨a16, rfl, h⟩ := h
  replace h := Option.bind_eq_some_iff.mp h
  obtain ⟨x18, e17, h⟩ := h
  refine g_iald (pc := 194) K e17 dX8_tellNode_194 ?_
  refine g_i2l (pc := 195) K dX8_tellNode_195 ?_
  refine g_lstore (pc := 196) K [(8, J_ ((Int32.toInt64 x18))), (0, P_ (some v0)), (3, I_ v3), (5, I_ v5), (6, J_ v6), (10, I_ v10), (11, I_ v11), (12, I_ v12)] (by decide) rfl dX8_tellNode_196 ?_
  refine g_iinc (pc := 198) K 5 (v10 + 1) [(10, I_ ((v10 + 1))), (8, J_ ((Int32.toInt64 x18))), (0, P_ (some v0)), (3, I_ v3), (5, I_ v5), (6, J_ v6), (11, I_ v11), (12, I_ v12)] rfl rfl (by decide) rfl dX8_tellNode_198 ?_
  refine g_iinc (pc := 201) K 6 (v11 + (-1)) [(11, I_ ((v11 + (-1)))), (10, I_ ((v10 + 1))), (8, J_ ((Int32.toInt64 x18))), (0, P_ (some v0)), (3, I_ v3), (5, I_ v5), (6, J_ v6), (12, I_ v12)] rfl (congrArg (fun z => v11 + z) (by decide : Int32.ofInt (-1) = (-1))) (by decide) rfl dX8_tellNode_201 ?_
  refine g_goto (pc := 204) (tgt := 116) K dX8_tellNode_204 (by decide) ?_
  refine g_sub K [3, 4, 5, 6, 2, 1, 0] rfl ?_
  exact hrec116 _ _ _ _ _ _ _ _ _ _ h (by omega) (by omega)
def B_X8_tellNode_116 (rec116 : Nat → Int32 → Int32 → Int64 → Int64 → Int32 → Int32 → sw_S → Option (Int32 × sw_S)) (v0 : Nat) (v3 : Int32) (v5 : Int32) (v6 : Int64) (v8 : Int64) (v10 : Int32) (v11 : Int32) (σ : sw_S) : Option (Int32 × sw_S) :=
  (if v11 < 0 then
  some (v10, σ)
  else
  (sw_gR 8 v0 13 σ).bind fun r2 =>
  r2.bind fun a4 =>
  (sw_as 0 a4 v10 ((((((64 * ((v3 - 1)))) + v5)) + v11)) σ).bind fun σ6 =>
  (sw_gR 8 v0 14 σ6).bind fun r7 =>
  (if v11 = 0 then
  b_X8_tellNode_173 rec116 v0 v3 v5 v6 v8 v10 v11 ((((((64 * ((v3 - 1)))) + v5)) + v11)) v6 v10 r7 σ6
  else
  (sw_gR 8 v0 3 σ6).bind fun r10 =>
  (sw_gR 8 v0 9 σ6).bind fun r12 =>
  r12.bind fun a14 =>
  (sw_al 0 a14 ((((((64 * ((v3 - 1)))) + v5)) + v11)) σ6).bind fun x16 =>
  r10.bind fun a17 =>
  (sw_al 0 a17 x16 σ6).bind fun x19 =>
  b_X8_tellNode_173 rec116 v0 v3 v5 v6 v8 v10 v11 ((((((64 * ((v3 - 1)))) + v5)) + v11)) ((Int32.toInt64 x19)) v10 r7 σ6))
set_option maxHeartbeats 4000000 in
set_option maxRecDepth 100000 in
theorem wB_X8_tellNode_116 {p : Program} {l : Launch} {e : Env} {s : State} {m : MethodId} {args : Array Value} {below : List Frame} {meth : Method} {c : Code} {Q : State → Prop} {A : Nat → Prop} {D : va_G} {cT : Nat → ClassId} {r : Int32}  {σ' : sw_S}  (K : sw_C p s m args c cX8_tellNode 13 RX8 A D cT) (hT : sw_Ti cX8_tellNode p l e (sw_R 1 0 0 24) s m args below meth c Q 13 A D cT 0 0 σ' r) {rec116 : Nat → Int32 → Int32 → Int64 → Int64 → Int32 → Int32 → sw_S → Option (Int32 × sw_S)} (hrec116 : ∀ (v0 : Nat) (v3 : Int32) (v5 : Int32) (v6 : Int64) (v8 : Int64) (v10 : Int32) (v11 : Int32) (σ : sw_S) (ce sl : Nat), rec116 v0 v3 v5 v6 v8 v10 v11 σ = some (r, σ') → ce + (0) ≤ 0 → sl + (0) ≤ 0 → sw_G p l e (sw_R 1 0 0 24) s m args below meth c Q 13 A D cT σ ce sl 116 [(0, P_ (some v0)), (3, I_ v3), (5, I_ v5), (6, J_ v6), (8, J_ v8), (10, I_ v10), (11, I_ v11)] []) (v0 : Nat) (v3 : Int32) (v5 : Int32) (v6 : Int64) (v8 : Int64) (v10 : Int32) (v11 : Int32) (σ : sw_S)  (ce sl : Nat) (h : B_X8_tellNode_116 rec116 v0 v3 v5 v6 v8 v10 v11 σ = some (r, σ')) (hce : ce + (0) ≤ 0) (hsl : sl + (0) ≤ 0) : sw_G p l e (sw_R 1 0 0 24) s m args below meth c Q 13 A D cT σ ce sl 116 [(0, P_ (some v0)), (3, I_ v3), (5, I_ v5), (6, J_ v6), (8, J_ v8), (10, I_ v10), (11, I_ v11)] [] := by
  unfold B_X8_tellNode_116 at h
  refine g_iload (pc := 116) K 6 rfl dX8_tellNode_116 ?_
  refine g_if_lt (pc := 118) K 207 dX8_tellNode_118 (by decide) (fun c1 => ?_) (fun c1 => ?_)
  · replace h := (if_pos c1).symm.trans h
    refine g_iload (pc := 207) K 5 rfl dX8_tellNode_207 ?_
    cases h
    exact hT _ _ 209 _ (by omega) (by omega) dX8_tellNode_209
  · replace h := (if_neg c1).symm.trans h
    refine g_bipush (pc := 121) (v := 64) K dX8_tellNode_121 (by decide) ?_
    refine g_iload_n (pc := 123) K 1 rfl rfl dX8_tellNode_123 ?_
    refine g_iconst (pc := 124) (v := 1) K dX8_tellNode_124 (by decide) ?_
    refine g_isub (pc := 125) K dX8_tellNode_125 ?_
    refine g_imul (pc := 126) K dX8_tellNode_126 ?_
    refine g_iload (pc := 127) K 2 rfl dX8_tellNode_127 ?_
    refine g_iadd (pc := 129) K dX8_tellNode_129 ?_
    refine g_iload (pc := 130) K 6 rfl dX8_tellNode_130 ?_
    refine g_iadd (pc := 132) K dX8_tellNode_132 ?_
    refine g_istore (pc := 133) K [(12, I_ ((((((64 * ((v3 - 1)))) + v5)) + v11))), (0, P_ (some v0)), (3, I_ v3), (5, I_ v5), (6, J_ v6), (8, J_ v8), (10, I_ v10), (11, I_ v11)] (by decide) rfl dX8_tellNode_133 ?_
    refine g_aload_n (pc := 135) K 1 rfl rfl dX8_tellNode_135 ?_
    replace h := Option.bind_eq_some_iff.mp h
    obtain ⟨r2, e3, h⟩ := h
    refine g_getR (pc := 136) K cl_8 hin_X8 (k := 13) (by decide) tb_531 rfl e3 dX8_tellNode_136 ?_
    refine g_iload (pc := 139) K 6 rfl dX8_tellNode_139 ?_
    refine g_iload (pc := 141) K 0 rfl dX8_tellNode_141 ?_
    replace h := Option.bind_eq_some_iff.mp h
    obtain ⟨a4, rfl, h⟩ := h
    replace h := Option.bind_eq_some_iff.mp h
    obtain ⟨σ6, e5, h⟩ := h
    refine g_iast (pc := 143) K e5 dX8_tellNode_143 ?_
    refine g_aload_n (pc := 144) K 1 rfl rfl dX8_tellNode_144 ?_
    replace h := Option.bind_eq_some_iff.mp h
    obtain ⟨r7, e8, h⟩ := h
    refine g_getR (pc := 145) K cl_8 hin_X8 (k := 14) (by decide) tb_532 rfl e8 dX8_tellNode_145 ?_
    refine g_iload (pc := 148) K 6 rfl dX8_tellNode_148 ?_
    refine g_iload (pc := 150) K 7 rfl dX8_tellNode_150 ?_
    refine g_if_ne (pc := 152) K 160 dX8_tellNode_152 (by decide) (fun c9 => ?_) (fun c9 => ?_)
    · replace h := (if_pos c9).symm.trans h
      refine g_lload (pc := 155) K 4 rfl dX8_tellNode_155 ?_
      refine g_goto (pc := 157) (tgt := 173) K dX8_tellNode_157 (by decide) ?_
      refine g_sub K [1, 2, 3, 4, 5, 6, 7, 0] rfl ?_
      exact w_X8_tellNode_173 K hT hrec116  _ _ _ _ _ _ _ _ _ _ _ _ _ _ h (by omega) (by omega)
    · replace h := (if_neg c9).symm.trans h
      refine g_aload_n (pc := 160) K 1 rfl rfl dX8_tellNode_160 ?_
      replace h := Option.bind_eq_some_iff.mp h
      obtain ⟨r10, e11, h⟩ := h
      refine g_getR (pc := 161) K cl_8 hin_X8 (k := 3) (by decide) tb_521 rfl e11 dX8_tellNode_161 ?_
      refine g_aload_n (pc := 164) K 1 rfl rfl dX8_tellNode_164 ?_
      replace h := Option.bind_eq_some_iff.mp h
      obtain ⟨r12, e13, h⟩ := h
      refine g_getR (pc := 165) K cl_8 hin_X8 (k := 9) (by decide) tb_527 rfl e13 dX8_tellNode_165 ?_
      refine g_iload (pc := 168) K 0 rfl dX8_tellNode_168 ?_
      replace h := Option.bind_eq_some_iff.mp h
      obtain ⟨a14, rfl, h⟩ := h
      replace h := Option.bind_eq_some_iff.mp h
      obtain ⟨x16, e15, h⟩ := h
      refine g_iald (pc := 170) K e15 dX8_tellNode_170 ?_
      replace h := Option.bind_eq_some_iff.mp h
      obtain ⟨a17, rfl, h⟩ := h
      replace h := Option.bind_eq_some_iff.mp h
      obtain ⟨x19, e18, h⟩ := h
      refine g_iald (pc := 171) K e18 dX8_tellNode_171 ?_
      refine g_i2l (pc := 172) K dX8_tellNode_172 ?_
      refine g_sub K [1, 2, 3, 4, 5, 6, 7, 0] rfl ?_
      exact w_X8_tellNode_173 K hT hrec116  _ _ _ _ _ _ _ _ _ _ _ _ _ _ h (by omega) (by omega)
def b_X8_tellNode_116  : Nat → Nat → Int32 → Int32 → Int64 → Int64 → Int32 → Int32 → sw_S → Option (Int32 × sw_S)
  | 0 => fun _ _ _ _ _ _ _ _ => none
  | n + 1 => B_X8_tellNode_116 (b_X8_tellNode_116  n)
theorem wl_X8_tellNode_116 {p : Program} {l : Launch} {e : Env} {s : State} {m : MethodId} {args : Array Value} {below : List Frame} {meth : Method} {c : Code} {Q : State → Prop} {A : Nat → Prop} {D : va_G} {cT : Nat → ClassId} {r : Int32}  {σ' : sw_S}  (K : sw_C p s m args c cX8_tellNode 13 RX8 A D cT) (hT : sw_Ti cX8_tellNode p l e (sw_R 1 0 0 24) s m args below meth c Q 13 A D cT 0 0 σ' r) : ∀ (n : Nat) (v0 : Nat) (v3 : Int32) (v5 : Int32) (v6 : Int64) (v8 : Int64) (v10 : Int32) (v11 : Int32) (σ : sw_S) (ce sl : Nat), b_X8_tellNode_116  n v0 v3 v5 v6 v8 v10 v11 σ = some (r, σ') → ce + (0) ≤ 0 → sl + (0) ≤ 0 → sw_G p l e (sw_R 1 0 0 24) s m args below meth c Q 13 A D cT σ ce sl 116 [(0, P_ (some v0)), (3, I_ v3), (5, I_ v5), (6, J_ v6), (8, J_ v8), (10, I_ v10), (11, I_ v11)] [] := by
  intro n
  induction n with
  | zero =>
    intro v0 v3 v5 v6 v8 v10 v11 σ ce sl h
    exact absurd (show none = some (r, σ') from h) (by simp)
  | succ n ih =>
    intro v0 v3 v5 v6 v8 v10 v11 σ ce sl h hce hsl
    exact wB_X8_tellNode_116 K hT (fun _ _ _ _ _ _ _ _ _ _ h h1 h2 => ih _ _ _ _ _ _ _ _ _ _ h h1 h2) _ _ _ _ _ _ _ _ _ _ h hce hsl
def B_X8_tellNode_51 (rec51 : Nat → Int32 → Int32 → Int32 → Int32 → sw_S → Option (Int32 × sw_S)) (v0 : Nat) (v2 : Int32) (v4 : Int32) (v5 : Int32) (v6 : Int32) (σ : sw_S) : Option (Int32 × sw_S) :=
  (if ((v5 + v4)) ≤ v6 then
  some (v2, σ)
  else
  (sw_gR 8 v0 3 σ).bind fun r2 =>
  r2.bind fun a4 =>
  (sw_al 0 a4 v6 σ).bind fun x6 =>
  (sw_ob 8 v0 σ).bind fun f7 =>
  (f_X8_tell v0 x6 σ).bind fun σ10 =>
  (sw_gR 8 v0 4 σ10).bind fun r11 =>
  r11.bind fun a13 =>
  (sw_al 0 a13 v6 σ10).bind fun x15 =>
  (sw_ob 8 v0 σ10).bind fun f16 =>
  (f_X8_tell v0 x15 σ10).bind fun σ19 =>
  rec51 v0 v2 v4 v5 ((v6 + 1)) σ19)
set_option maxHeartbeats 4000000 in
set_option maxRecDepth 100000 in
theorem wB_X8_tellNode_51 {p : Program} {l : Launch} {e : Env} {s : State} {m : MethodId} {args : Array Value} {below : List Frame} {meth : Method} {c : Code} {Q : State → Prop} {A : Nat → Prop} {D : va_G} {cT : Nat → ClassId} {r : Int32}  {σ' : sw_S}  (K : sw_C p s m args c cX8_tellNode 13 RX8 A D cT) (hT : sw_Ti cX8_tellNode p l e (sw_R 1 0 0 24) s m args below meth c Q 13 A D cT 0 0 σ' r) {rec51 : Nat → Int32 → Int32 → Int32 → Int32 → sw_S → Option (Int32 × sw_S)} (hrec51 : ∀ (v0 : Nat) (v2 : Int32) (v4 : Int32) (v5 : Int32) (v6 : Int32) (σ : sw_S) (ce sl : Nat), rec51 v0 v2 v4 v5 v6 σ = some (r, σ') → ce + (0) ≤ 0 → sl + (0) ≤ 0 → sw_G p l e (sw_R 1 0 0 24) s m args below meth c Q 13 A D cT σ ce sl 51 [(0, P_ (some v0)), (2, I_ v2), (4, I_ v4), (5, I_ v5), (6, I_ v6)] []) (v0 : Nat) (v2 : Int32) (v4 : Int32) (v5 : Int32) (v6 : Int32) (σ : sw_S)  (ce sl : Nat) (h : B_X8_tellNode_51 rec51 v0 v2 v4 v5 v6 σ = some (r, σ')) (hce : ce + (0) ≤ 0) (hsl : sl + (0) ≤ 0) : sw_G p l e (sw_R 1 0 0 24) s m args below meth c Q 13 A D cT σ ce sl 51 [(0, P_ (some v0)), (2, I_ v2), (4, I_ v4), (5, I_ v5), (6, I_ v6)] [] := by
  unfold B_X8_tellNode_51 at h
  refine g_iload (pc := 51) K 4 rfl dX8_tellNode_51 ?_
  refine g_iload (pc := 53) K 3 rfl dX8_tellNode_53 ?_
  refine g_iload (pc := 55) K 2 rfl dX8_tellNode_55 ?_
  refine g_iadd (pc := 57) K dX8_tellNode_57 ?_
  refine g_icmp_ge (pc := 58) K 89 dX8_tellNode_58 (by decide) (fun c1 => ?_) (fun c1 => ?_)
  · replace h := (if_pos c1).symm.trans h
    refine g_iload_n (pc := 89) K 1 rfl rfl dX8_tellNode_89 ?_
    cases h
    exact hT _ _ 90 _ (by omega) (by omega) dX8_tellNode_90
  · replace h := (if_neg c1).symm.trans h
    refine g_aload_n (pc := 61) K 0 rfl rfl dX8_tellNode_61 ?_
    refine g_aload_n (pc := 62) K 0 rfl rfl dX8_tellNode_62 ?_
    replace h := Option.bind_eq_some_iff.mp h
    obtain ⟨r2, e3, h⟩ := h
    refine g_getR (pc := 63) K cl_8 hin_X8 (k := 3) (by decide) tb_521 rfl e3 dX8_tellNode_63 ?_
    refine g_iload (pc := 66) K 4 rfl dX8_tellNode_66 ?_
    replace h := Option.bind_eq_some_iff.mp h
    obtain ⟨a4, rfl, h⟩ := h
    replace h := Option.bind_eq_some_iff.mp h
    obtain ⟨x6, e5, h⟩ := h
    refine g_iald (pc := 68) K e5 dX8_tellNode_68 ?_
    replace h := Option.bind_eq_some_iff.mp h
    obtain ⟨f7, e8, h⟩ := h
    replace h := Option.bind_eq_some_iff.mp h
    obtain ⟨σ10, e9, h⟩ := h
    refine g_callV (pc := 69) (st := []) K [I_ x6] (c_X8_tell _ _ _ _ _ _ e9) e8 cl_8 rfl tb_692 tb_689 tb_7 tb_691 sl_36 hd_X8_tell ⟨Nat.le_of_ble_eq_true rfl, Nat.le_of_ble_eq_true rfl⟩ rfl (sw_rm (Nat.le_of_ble_eq_true rfl)) ⟨by show _ ≤ 0; omega, by show _ ≤ 0; omega⟩ dX8_tellNode_69 ?_
    refine g_aload_n (pc := 72) K 0 rfl rfl dX8_tellNode_72 ?_
    refine g_aload_n (pc := 73) K 0 rfl rfl dX8_tellNode_73 ?_
    replace h := Option.bind_eq_some_iff.mp h
    obtain ⟨r11, e12, h⟩ := h
    refine g_getR (pc := 74) K cl_8 hin_X8 (k := 4) (by decide) tb_522 rfl e12 dX8_tellNode_74 ?_
    refine g_iload (pc := 77) K 4 rfl dX8_tellNode_77 ?_
    replace h := Option.bind_eq_some_iff.mp h
    obtain ⟨a13, rfl, h⟩ := h
    replace h := Option.bind_eq_some_iff.mp h
    obtain ⟨x15, e14, h⟩ := h
    refine g_iald (pc := 79) K e14 dX8_tellNode_79 ?_
    replace h := Option.bind_eq_some_iff.mp h
    obtain ⟨f16, e17, h⟩ := h
    replace h := Option.bind_eq_some_iff.mp h
    obtain ⟨σ19, e18, h⟩ := h
    refine g_callV (pc := 80) (st := []) K [I_ x15] (c_X8_tell _ _ _ _ _ _ e18) e17 cl_8 rfl tb_692 tb_689 tb_7 tb_691 sl_36 hd_X8_tell ⟨Nat.le_of_ble_eq_true rfl, Nat.le_of_ble_eq_true rfl⟩ rfl (sw_rm (Nat.le_of_ble_eq_true rfl)) ⟨by show _ ≤ 0; omega, by show _ ≤ 0; omega⟩ dX8_tellNode_80 ?_
    refine g_iinc (pc := 83) K 4 (v6 + 1) [(6, I_ ((v6 + 1))), (0, P_ (some v0)), (2, I_ v2), (4, I_ v4), (5, I_ v5)] rfl rfl (by decide) rfl dX8_tellNode_83 ?_
    refine g_goto (pc := 86) (tgt := 51) K dX8_tellNode_86 (by decide) ?_
    refine g_sub K [1, 2, 3, 4, 0] rfl ?_
    exact hrec51 _ _ _ _ _ _ _ _ h (by omega) (by omega)
def b_X8_tellNode_51  : Nat → Nat → Int32 → Int32 → Int32 → Int32 → sw_S → Option (Int32 × sw_S)
  | 0 => fun _ _ _ _ _ _ => none
  | n + 1 => B_X8_tellNode_51 (b_X8_tellNode_51  n)
theorem wl_X8_tellNode_51 {p : Program} {l : Launch} {e : Env} {s : State} {m : MethodId} {args : Array Value} {below : List Frame} {meth : Method} {c : Code} {Q : State → Prop} {A : Nat → Prop} {D : va_G} {cT : Nat → ClassId} {r : Int32}  {σ' : sw_S}  (K : sw_C p s m args c cX8_tellNode 13 RX8 A D cT) (hT : sw_Ti cX8_tellNode p l e (sw_R 1 0 0 24) s m args below meth c Q 13 A D cT 0 0 σ' r) : ∀ (n : Nat) (v0 : Nat) (v2 : Int32) (v4 : Int32) (v5 : Int32) (v6 : Int32) (σ : sw_S) (ce sl : Nat), b_X8_tellNode_51  n v0 v2 v4 v5 v6 σ = some (r, σ') → ce + (0) ≤ 0 → sl + (0) ≤ 0 → sw_G p l e (sw_R 1 0 0 24) s m args below meth c Q 13 A D cT σ ce sl 51 [(0, P_ (some v0)), (2, I_ v2), (4, I_ v4), (5, I_ v5), (6, I_ v6)] [] := by
  intro n
  induction n with
  | zero =>
    intro v0 v2 v4 v5 v6 σ ce sl h
    exact absurd (show none = some (r, σ') from h) (by simp)
  | succ n ih =>
    intro v0 v2 v4 v5 v6 σ ce sl h hce hsl
    exact wB_X8_tellNode_51 K hT (fun _ _ _ _ _ _ _ _ h h1 h2 => ih _ _ _ _ _ _ _ _ h h1 h2) _ _ _ _ _ _ _ _ h hce hsl
def b_X8_tellNode_34 (v0 : Nat) (v2 : Int32) (v3 : Int32) (v4 : Int32) (v5 : Int32) (t0 : Int32) (t1 : Nat) (σ : sw_S) : Option (Int32 × sw_S) :=
  (sw_ob 8 t1 σ).bind fun f1 =>
  (f_X8_tell t1 t0 σ).bind fun σ4 =>
  (sw_ob 8 v0 σ4).bind fun f5 =>
  (f_X8_tell v0 v4 σ4).bind fun σ8 =>
  (if v3 = 0 then
  b_X8_tellNode_51 1000 v0 v2 v4 v5 v5 σ8
  else
  (sw_gR 8 v0 14 σ8).bind fun r10 =>
  r10.bind fun a12 =>
  (sw_jl a12 v2 σ8).bind fun x14 =>
  (sw_gR 8 v0 15 σ8).bind fun r15 =>
  r15.bind fun a17 =>
  (sw_jl a17 v2 σ8).bind fun x19 =>
  b_X8_tellNode_116 1000 v0 v3 v5 x14 x19 v2 ((v4 - 1)) σ8)
set_option maxHeartbeats 4000000 in
set_option maxRecDepth 100000 in
theorem w_X8_tellNode_34 {p : Program} {l : Launch} {e : Env} {s : State} {m : MethodId} {args : Array Value} {below : List Frame} {meth : Method} {c : Code} {Q : State → Prop} {A : Nat → Prop} {D : va_G} {cT : Nat → ClassId} {r : Int32}  {σ' : sw_S}  (K : sw_C p s m args c cX8_tellNode 13 RX8 A D cT) (hT : sw_Ti cX8_tellNode p l e (sw_R 1 0 0 24) s m args below meth c Q 13 A D cT 0 0 σ' r) (v0 : Nat) (v2 : Int32) (v3 : Int32) (v4 : Int32) (v5 : Int32) (t0 : Int32) (t1 : Nat) (σ : sw_S)  (ce sl : Nat) (h : b_X8_tellNode_34 v0 v2 v3 v4 v5 t0 t1 σ = some (r, σ')) (hce : ce + (0) ≤ 0) (hsl : sl + (0) ≤ 0) : sw_G p l e (sw_R 1 0 0 24) s m args below meth c Q 13 A D cT σ ce sl 34 [(0, P_ (some v0)), (2, I_ v2), (3, I_ v3), (4, I_ v4), (5, I_ v5)] [I_ t0, P_ (some t1)] := by
  unfold b_X8_tellNode_34 at h
  replace h := Option.bind_eq_some_iff.mp h
  obtain ⟨f1, e2, h⟩ := h
  replace h := Option.bind_eq_some_iff.mp h
  obtain ⟨σ4, e3, h⟩ := h
  refine g_callV (pc := 34) (st := []) K [I_ t0] (c_X8_tell _ _ _ _ _ _ e3) e2 cl_8 rfl tb_692 tb_689 tb_7 tb_691 sl_36 hd_X8_tell ⟨Nat.le_of_ble_eq_true rfl, Nat.le_of_ble_eq_true rfl⟩ rfl (sw_rm (Nat.le_of_ble_eq_true rfl)) ⟨by show _ ≤ 0; omega, by show _ ≤ 0; omega⟩ dX8_tellNode_34 ?_
  refine g_aload_n (pc := 37) K 0 rfl rfl dX8_tellNode_37 ?_
  refine g_iload (pc := 38) K 3 rfl dX8_tellNode_38 ?_
  replace h := Option.bind_eq_some_iff.mp h
  obtain ⟨f5, e6, h⟩ := h
  replace h := Option.bind_eq_some_iff.mp h
  obtain ⟨σ8, e7, h⟩ := h
  refine g_callV (pc := 40) (st := []) K [I_ v4] (c_X8_tell _ _ _ _ _ _ e7) e6 cl_8 rfl tb_692 tb_689 tb_7 tb_691 sl_36 hd_X8_tell ⟨Nat.le_of_ble_eq_true rfl, Nat.le_of_ble_eq_true rfl⟩ rfl (sw_rm (Nat.le_of_ble_eq_true rfl)) ⟨by show _ ≤ 0; omega, by show _ ≤ 0; omega⟩ dX8_tellNode_40 ?_
  refine g_iload_n (pc := 43) K 2 rfl rfl dX8_tellNode_43 ?_
  refine g_if_ne (pc := 44) K 91 dX8_tellNode_44 (by decide) (fun c9 => ?_) (fun c9 => ?_)
  · replace h := (if_pos c9).symm.trans h
    refine g_iload (pc := 47) K 4 rfl dX8_tellNode_47 ?_
    refine g_istore (pc := 49) K [(6, I_ v5), (0, P_ (some v0)), (2, I_ v2), (3, I_ v3), (4, I_ v4), (5, I_ v5)] (by decide) rfl dX8_tellNode_49 ?_
    refine g_sub K [1, 2, 4, 5, 0] rfl ?_
    exact wl_X8_tellNode_51 K hT  1000 _ _ _ _ _ _ _ _ h (by omega) (by omega)
  · replace h := (if_neg c9).symm.trans h
    refine g_aload_n (pc := 91) K 0 rfl rfl dX8_tellNode_91 ?_
    replace h := Option.bind_eq_some_iff.mp h
    obtain ⟨r10, e11, h⟩ := h
    refine g_getR (pc := 92) K cl_8 hin_X8 (k := 14) (by decide) tb_532 rfl e11 dX8_tellNode_92 ?_
    refine g_iload_n (pc := 95) K 1 rfl rfl dX8_tellNode_95 ?_
    replace h := Option.bind_eq_some_iff.mp h
    obtain ⟨a12, rfl, h⟩ := h
    replace h := Option.bind_eq_some_iff.mp h
    obtain ⟨x14, e13, h⟩ := h
    refine g_jald (pc := 96) K e13 dX8_tellNode_96 ?_
    refine g_lstore (pc := 97) K [(6, J_ x14), (0, P_ (some v0)), (2, I_ v2), (3, I_ v3), (4, I_ v4), (5, I_ v5)] (by decide) rfl dX8_tellNode_97 ?_
    refine g_aload_n (pc := 99) K 1 rfl rfl dX8_tellNode_99 ?_
    replace h := Option.bind_eq_some_iff.mp h
    obtain ⟨r15, e16, h⟩ := h
    refine g_getR (pc := 100) K cl_8 hin_X8 (k := 15) (by decide) tb_533 rfl e16 dX8_tellNode_100 ?_
    refine g_iload_n (pc := 103) K 2 rfl rfl dX8_tellNode_103 ?_
    replace h := Option.bind_eq_some_iff.mp h
    obtain ⟨a17, rfl, h⟩ := h
    replace h := Option.bind_eq_some_iff.mp h
    obtain ⟨x19, e18, h⟩ := h
    refine g_jald (pc := 104) K e18 dX8_tellNode_104 ?_
    refine g_lstore (pc := 105) K [(8, J_ x19), (6, J_ x14), (0, P_ (some v0)), (2, I_ v2), (3, I_ v3), (4, I_ v4), (5, I_ v5)] (by decide) rfl dX8_tellNode_105 ?_
    refine g_iload_n (pc := 107) K 3 rfl rfl dX8_tellNode_107 ?_
    refine g_istore (pc := 108) K [(10, I_ v2), (8, J_ x19), (6, J_ x14), (0, P_ (some v0)), (2, I_ v2), (3, I_ v3), (4, I_ v4), (5, I_ v5)] (by decide) rfl dX8_tellNode_108 ?_
    refine g_iload (pc := 110) K 6 rfl dX8_tellNode_110 ?_
    refine g_iconst (pc := 112) (v := 1) K dX8_tellNode_112 (by decide) ?_
    refine g_isub (pc := 113) K dX8_tellNode_113 ?_
    refine g_istore (pc := 114) K [(11, I_ ((v4 - 1))), (10, I_ v2), (8, J_ x19), (6, J_ x14), (0, P_ (some v0)), (2, I_ v2), (3, I_ v3), (4, I_ v4), (5, I_ v5)] (by decide) rfl dX8_tellNode_114 ?_
    refine g_sub K [4, 6, 8, 3, 2, 1, 0] rfl ?_
    exact wl_X8_tellNode_116 K hT  1000 _ _ _ _ _ _ _ _ _ _ h (by omega) (by omega)
def f_X8_tellNode (p0 : Nat) (q1 : Int32) (q2 : Int32) (σ : sw_S) : Option (Int32 × sw_S) :=
  (sw_gR 8 p0 6 σ).bind fun r1 =>
  r1.bind fun a3 =>
  (sw_al 0 a3 q1 σ).bind fun x5 =>
  (sw_ob 8 p0 σ).bind fun f6 =>
  (f_X8_firstChild p0 ((q1 / 64)) ((q1 - q1 / 64 * 64)) σ).bind fun x9 =>
  (if ((q1 / 64)) = 0 then
  b_X8_tellNode_34 p0 q2 ((q1 / 64)) x5 x9 1 p0 σ
  else
  b_X8_tellNode_34 p0 q2 ((q1 / 64)) x5 x9 2 p0 σ)
set_option maxHeartbeats 4000000 in
set_option maxRecDepth 100000 in
theorem c_X8_tellNode  (l : Launch) (D : va_G) (cT : Nat → ClassId) (p0 : Nat) (q1 : Int32) (q2 : Int32) (σ : sw_S) {r : Int32} {σ' : sw_S} (h : f_X8_tellNode p0 q1 q2 σ = some (r, σ')) : sw_M l D cT yX8_tellNode cX8_tellNode 13 (some .int) 1 24 0 0 σ [P_ (some p0), I_ q1, I_ q2] (some (I_ r)) σ' := by
  refine sw_met_i (by decide) (Nat.le_of_ble_eq_true rfl) (fun p e s m args below meth c A Q K hnm hT => ?_)
  have hce : 0 + 0 ≤ 0 := Nat.le_of_ble_eq_true rfl
  have hsl : 0 + 0 ≤ 0 := Nat.le_of_ble_eq_true rfl
  unfold f_X8_tellNode at h
  change sw_G p l e (sw_R 1 0 0 24) s m args below meth c Q 13 A D cT σ 0 0 0 [(0, P_ (some p0)), (1, I_ q1), (2, I_ q2)] []
  refine g_iload_n (pc := 0) K 1 rfl rfl dX8_tellNode_0 ?_
  refine g_bipush (pc := 1) (v := 64) K dX8_tellNode_1 (by decide) ?_
  refine g_idiv (pc := 3) K dX8_tellNode_3 (by decide) ?_
  refine g_istore_n (pc := 4) K [(3, I_ ((q1 / 64))), (0, P_ (some p0)), (1, I_ q1), (2, I_ q2)] rfl (by decide) rfl dX8_tellNode_4 ?_
  refine g_aload_n (pc := 5) K 1 rfl rfl dX8_tellNode_5 ?_
  replace h := Option.bind_eq_some_iff.mp h
  obtain ⟨r1, e2, h⟩ := h
  refine g_getR (pc := 6) K cl_8 hin_X8 (k := 6) (by decide) tb_524 rfl e2 dX8_tellNode_6 ?_
  refine g_iload_n (pc := 9) K 2 rfl rfl dX8_tellNode_9 ?_
  replace h := Option.bind_eq_some_iff.mp h
  obtain ⟨a3, rfl, h⟩ := h
  replace h := Option.bind_eq_some_iff.mp h
  obtain ⟨x5, e4, h⟩ := h
  refine g_iald (pc := 10) K e4 dX8_tellNode_10 ?_
  refine g_istore (pc := 11) K [(4, I_ x5), (3, I_ ((q1 / 64))), (0, P_ (some p0)), (1, I_ q1), (2, I_ q2)] (by decide) rfl dX8_tellNode_11 ?_
  refine g_aload_n (pc := 13) K 2 rfl rfl dX8_tellNode_13 ?_
  refine g_iload_n (pc := 14) K 1 rfl rfl dX8_tellNode_14 ?_
  refine g_iload_n (pc := 15) K 3 rfl rfl dX8_tellNode_15 ?_
  refine g_bipush (pc := 16) (v := 64) K dX8_tellNode_16 (by decide) ?_
  refine g_irem (pc := 18) K dX8_tellNode_18 (by decide) ?_
  replace h := Option.bind_eq_some_iff.mp h
  obtain ⟨f6, e7, h⟩ := h
  replace h := Option.bind_eq_some_iff.mp h
  obtain ⟨x9, e8, h⟩ := h
  refine g_callV (pc := 19) (st := []) K [I_ ((q1 / 64)), I_ ((q1 - q1 / 64 * 64))] (c_X8_firstChild _ _ _ _ _ _ _ e8) e7 cl_8 rfl tb_700 tb_697 tb_7 tb_699 sl_38 hd_X8_firstChild ⟨Nat.le_of_ble_eq_true rfl, Nat.le_of_ble_eq_true rfl⟩ rfl (sw_rm (Nat.le_of_ble_eq_true rfl)) ⟨by show _ ≤ 0; omega, by show _ ≤ 0; omega⟩ dX8_tellNode_19 ?_
  refine g_istore (pc := 22) K [(5, I_ x9), (4, I_ x5), (3, I_ ((q1 / 64))), (0, P_ (some p0)), (1, I_ q1), (2, I_ q2)] (by decide) rfl dX8_tellNode_22 ?_
  refine g_aload_n (pc := 24) K 3 rfl rfl dX8_tellNode_24 ?_
  refine g_iload_n (pc := 25) K 2 rfl rfl dX8_tellNode_25 ?_
  refine g_if_ne (pc := 26) K 33 dX8_tellNode_26 (by decide) (fun c10 => ?_) (fun c10 => ?_)
  · replace h := (if_pos c10).symm.trans h
    refine g_iconst (pc := 29) (v := 1) K dX8_tellNode_29 (by decide) ?_
    refine g_goto (pc := 30) (tgt := 34) K dX8_tellNode_30 (by decide) ?_
    refine g_sub K [3, 5, 2, 1, 0] rfl ?_
    exact w_X8_tellNode_34 K hT  _ _ _ _ _ _ _ _ _ _ h (by omega) (by omega)
  · replace h := (if_neg c10).symm.trans h
    refine g_iconst (pc := 33) (v := 2) K dX8_tellNode_33 (by decide) ?_
    refine g_sub K [3, 5, 2, 1, 0] rfl ?_
    exact w_X8_tellNode_34 K hT  _ _ _ _ _ _ _ _ _ _ h (by omega) (by omega)
