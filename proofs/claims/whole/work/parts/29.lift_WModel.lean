def b_X8_upTo_26 (v2 : Int32) (σ : sw_S) : Option Int32 :=
  some v2
set_option maxHeartbeats 4000000 in
set_option maxRecDepth 100000 in
theorem w_X8_upTo_26 {p : Program} {l : Launch} {e : Env} {s : State} {m : MethodId} {args : Array Value} {below : List Frame} {meth : Method} {c : Code} {Q : State → Prop} {A : Nat → Prop} {D : va_G} {cT : Nat → ClassId} {σ : sw_S}  {r : Int32}  (K : sw_C p s m args c cX8_upTo 3 RX8 A D cT) (hT : sw_Ti cX8_upTo p l e (sw_R 0 0 0 0) s m args below meth c Q 3 A D cT 0 0 σ r) (v2 : Int32) (ce sl : Nat) (h : b_X8_upTo_26 v2 σ = some r) (hce : ce + (0) ≤ 0) (hsl : sl + (0) ≤ 0) : sw_G p l e (sw_R 0 0 0 0) s m args below meth c Q 3 A D cT σ ce sl 26 [(2, I_ v2)] [] := by
  unfold b_X8_upTo_26 at h
  refine g_iload_n (pc := 26) K 0 rfl rfl dX8_upTo_26 ?_
  cases h
  exact hT _ _ 27 _ (by omega) (by omega) dX8_upTo_27
def B_X8_upTo_2 (rec2 : Nat → Int32 → Int32 → sw_S → Option Int32) (v0 : Nat) (v1 : Int32) (v2 : Int32) (σ : sw_S) : Option Int32 :=
  (sw_gI 8 v0 2 σ).bind fun x1 =>
  (if x1 ≤ v2 then
  b_X8_upTo_26 v2 σ
  else
  (sw_gR 8 v0 3 σ).bind fun r4 =>
  r4.bind fun a6 =>
  (sw_al 0 a6 v2 σ).bind fun x8 =>
  (if v1 < x8 then
  b_X8_upTo_26 v2 σ
  else
  rec2 v0 v1 ((v2 + 1)) σ))
set_option maxHeartbeats 4000000 in
set_option maxRecDepth 100000 in
theorem wB_X8_upTo_2 {p : Program} {l : Launch} {e : Env} {s : State} {m : MethodId} {args : Array Value} {below : List Frame} {meth : Method} {c : Code} {Q : State → Prop} {A : Nat → Prop} {D : va_G} {cT : Nat → ClassId} {σ : sw_S}  {r : Int32}  (K : sw_C p s m args c cX8_upTo 3 RX8 A D cT) (hT : sw_Ti cX8_upTo p l e (sw_R 0 0 0 0) s m args below meth c Q 3 A D cT 0 0 σ r) {rec2 : Nat → Int32 → Int32 → sw_S → Option Int32} (hrec2 : ∀ (v0 : Nat) (v1 : Int32) (v2 : Int32) (ce sl : Nat), rec2 v0 v1 v2 σ = some r → ce + (0) ≤ 0 → sl + (0) ≤ 0 → sw_G p l e (sw_R 0 0 0 0) s m args below meth c Q 3 A D cT σ ce sl 2 [(0, P_ (some v0)), (1, I_ v1), (2, I_ v2)] []) (v0 : Nat) (v1 : Int32) (v2 : Int32) (ce sl : Nat) (h : B_X8_upTo_2 rec2 v0 v1 v2 σ = some r) (hce : ce + (0) ≤ 0) (hsl : sl + (0) ≤ 0) : sw_G p l e (sw_R 0 0 0 0) s m args below meth c Q 3 A D cT σ ce sl 2 [(0, P_ (some v0)), (1, I_ v1), (2, I_ v2)] [] := by
  unfold B_X8_upTo_2 at h
  refine g_iload_n (pc := 2) K 2 rfl rfl dX8_upTo_2 ?_
  refine g_aload_n (pc := 3) K 0 rfl rfl dX8_upTo_3 ?_
  replace h := Option.bind_eq_some_iff.mp h
  obtain ⟨x1, e2, h⟩ := h
  refine g_getI (pc := 4) K cl_8 hin_X8 (k := 2) (by decide) tb_520 rfl e2 dX8_upTo_4 ?_
  refine g_icmp_ge (pc := 7) K 26 dX8_upTo_7 (by decide) (fun c3 => ?_) (fun c3 => ?_)
  · replace h := (if_pos c3).symm.trans h
    refine g_sub K [2] rfl ?_
    exact w_X8_upTo_26 K hT  _ _ _ h (by omega) (by omega)
  · replace h := (if_neg c3).symm.trans h
    refine g_aload_n (pc := 10) K 0 rfl rfl dX8_upTo_10 ?_
    replace h := Option.bind_eq_some_iff.mp h
    obtain ⟨r4, e5, h⟩ := h
    refine g_getR (pc := 11) K cl_8 hin_X8 (k := 3) (by decide) tb_521 rfl e5 dX8_upTo_11 ?_
    refine g_iload_n (pc := 14) K 2 rfl rfl dX8_upTo_14 ?_
    replace h := Option.bind_eq_some_iff.mp h
    obtain ⟨a6, rfl, h⟩ := h
    replace h := Option.bind_eq_some_iff.mp h
    obtain ⟨x8, e7, h⟩ := h
    refine g_iald (pc := 15) K e7 dX8_upTo_15 ?_
    refine g_iload_n (pc := 16) K 1 rfl rfl dX8_upTo_16 ?_
    refine g_icmp_gt (pc := 17) K 26 dX8_upTo_17 (by decide) (fun c9 => ?_) (fun c9 => ?_)
    · replace h := (if_pos c9).symm.trans h
      refine g_sub K [2] rfl ?_
      exact w_X8_upTo_26 K hT  _ _ _ h (by omega) (by omega)
    · replace h := (if_neg c9).symm.trans h
      refine g_iinc (pc := 20) K 2 (v2 + 1) [(2, I_ ((v2 + 1))), (0, P_ (some v0)), (1, I_ v1)] rfl rfl (by decide) rfl dX8_upTo_20 ?_
      refine g_goto (pc := 23) (tgt := 2) K dX8_upTo_23 (by decide) ?_
      refine g_sub K [1, 2, 0] rfl ?_
      exact hrec2 _ _ _ _ _ h (by omega) (by omega)
def b_X8_upTo_2  : Nat → Nat → Int32 → Int32 → sw_S → Option Int32
  | 0 => fun _ _ _ _ => none
  | n + 1 => B_X8_upTo_2 (b_X8_upTo_2  n)
theorem wl_X8_upTo_2 {p : Program} {l : Launch} {e : Env} {s : State} {m : MethodId} {args : Array Value} {below : List Frame} {meth : Method} {c : Code} {Q : State → Prop} {A : Nat → Prop} {D : va_G} {cT : Nat → ClassId} {σ : sw_S}  {r : Int32}  (K : sw_C p s m args c cX8_upTo 3 RX8 A D cT) (hT : sw_Ti cX8_upTo p l e (sw_R 0 0 0 0) s m args below meth c Q 3 A D cT 0 0 σ r) : ∀ (n : Nat) (v0 : Nat) (v1 : Int32) (v2 : Int32) (ce sl : Nat), b_X8_upTo_2  n v0 v1 v2 σ = some r → ce + (0) ≤ 0 → sl + (0) ≤ 0 → sw_G p l e (sw_R 0 0 0 0) s m args below meth c Q 3 A D cT σ ce sl 2 [(0, P_ (some v0)), (1, I_ v1), (2, I_ v2)] [] := by
  intro n
  induction n with
  | zero =>
    intro v0 v1 v2 ce sl h
    exact absurd (show none = some r from h) (by simp)
  | succ n ih =>
    intro v0 v1 v2 ce sl h hce hsl
    exact wB_X8_upTo_2 K hT (fun _ _ _ _ _ h h1 h2 => ih _ _ _ _ _ h h1 h2) _ _ _ _ _ h hce hsl
def f_X8_upTo (p0 : Nat) (q1 : Int32) (σ : sw_S) : Option Int32 :=
  b_X8_upTo_2 1000 p0 q1 0 σ
set_option maxHeartbeats 4000000 in
set_option maxRecDepth 100000 in
theorem c_X8_upTo  (l : Launch) (D : va_G) (cT : Nat → ClassId) (p0 : Nat) (q1 : Int32) (σ : sw_S) {r : Int32} (h : f_X8_upTo p0 q1 σ = some r) : sw_M l D cT yX8_upTo cX8_upTo 3 (some .int) 0 0 0 0 σ [P_ (some p0), I_ q1] (some (I_ r)) σ := by
  refine sw_met_i (by decide) (Nat.le_of_ble_eq_true rfl) (fun p e s m args below meth c A Q K hnm hT => ?_)
  have hce : 0 + 0 ≤ 0 := Nat.le_of_ble_eq_true rfl
  have hsl : 0 + 0 ≤ 0 := Nat.le_of_ble_eq_true rfl
  unfold f_X8_upTo at h
  change sw_G p l e (sw_R 0 0 0 0) s m args below meth c Q 3 A D cT σ 0 0 0 [(0, P_ (some p0)), (1, I_ q1)] []
  refine g_iconst (pc := 0) (v := 0) K dX8_upTo_0 (by decide) ?_
  refine g_istore_n (pc := 1) K [(2, I_ 0), (0, P_ (some p0)), (1, I_ q1)] rfl (by decide) rfl dX8_upTo_1 ?_
  refine g_sub K [1, 2, 0] rfl ?_
  exact wl_X8_upTo_2 K hT  1000 _ _ _ _ _ h (by omega) (by omega)

def b_X8_find_29 (t0 : Int32) (σ : sw_S) : Option Int32 :=
  some t0
set_option maxHeartbeats 4000000 in
set_option maxRecDepth 100000 in
theorem w_X8_find_29 {p : Program} {l : Launch} {e : Env} {s : State} {m : MethodId} {args : Array Value} {below : List Frame} {meth : Method} {c : Code} {Q : State → Prop} {A : Nat → Prop} {D : va_G} {cT : Nat → ClassId} {σ : sw_S}  {r : Int32}  (K : sw_C p s m args c cX8_find 3 RX8 A D cT) (hT : sw_Ti cX8_find p l e (sw_R 1 0 0 22) s m args below meth c Q 3 A D cT 0 0 σ r) (t0 : Int32) (ce sl : Nat) (h : b_X8_find_29 t0 σ = some r) (hce : ce + (0) ≤ 0) (hsl : sl + (0) ≤ 0) : sw_G p l e (sw_R 1 0 0 22) s m args below meth c Q 3 A D cT σ ce sl 29 [] [I_ t0] := by
  unfold b_X8_find_29 at h
  cases h
  exact hT _ _ 29 _ (by omega) (by omega) dX8_find_29
def b_X8_find_28 (σ : sw_S) : Option Int32 :=
  b_X8_find_29 ((-1)) σ
set_option maxHeartbeats 4000000 in
set_option maxRecDepth 100000 in
theorem w_X8_find_28 {p : Program} {l : Launch} {e : Env} {s : State} {m : MethodId} {args : Array Value} {below : List Frame} {meth : Method} {c : Code} {Q : State → Prop} {A : Nat → Prop} {D : va_G} {cT : Nat → ClassId} {σ : sw_S}  {r : Int32}  (K : sw_C p s m args c cX8_find 3 RX8 A D cT) (hT : sw_Ti cX8_find p l e (sw_R 1 0 0 22) s m args below meth c Q 3 A D cT 0 0 σ r) (ce sl : Nat) (h : b_X8_find_28  σ = some r) (hce : ce + (0) ≤ 0) (hsl : sl + (0) ≤ 0) : sw_G p l e (sw_R 1 0 0 22) s m args below meth c Q 3 A D cT σ ce sl 28 [] [] := by
  unfold b_X8_find_28 at h
  refine g_iconst (pc := 28) (v := (-1)) K dX8_find_28 (by decide) ?_
  refine g_sub K [] rfl ?_
  exact w_X8_find_29 K hT  _ _ _ h (by omega) (by omega)
def f_X8_find (p0 : Nat) (q1 : Int32) (σ : sw_S) : Option Int32 :=
  (sw_ob 8 p0 σ).bind fun f1 =>
  (f_X8_upTo p0 q1 σ).bind fun x4 =>
  (if x4 ≤ 0 then
  b_X8_find_28  σ
  else
  (sw_gR 8 p0 3 σ).bind fun r6 =>
  r6.bind fun a8 =>
  (sw_al 0 a8 ((x4 - 1)) σ).bind fun x10 =>
  (if x10 = q1 then
  b_X8_find_29 ((x4 - 1)) σ
  else
  b_X8_find_28  σ))
set_option maxHeartbeats 4000000 in
set_option maxRecDepth 100000 in
theorem c_X8_find  (l : Launch) (D : va_G) (cT : Nat → ClassId) (p0 : Nat) (q1 : Int32) (σ : sw_S) {r : Int32} (h : f_X8_find p0 q1 σ = some r) : sw_M l D cT yX8_find cX8_find 3 (some .int) 1 22 0 0 σ [P_ (some p0), I_ q1] (some (I_ r)) σ := by
  refine sw_met_i (by decide) (Nat.le_of_ble_eq_true rfl) (fun p e s m args below meth c A Q K hnm hT => ?_)
  have hce : 0 + 0 ≤ 0 := Nat.le_of_ble_eq_true rfl
  have hsl : 0 + 0 ≤ 0 := Nat.le_of_ble_eq_true rfl
  unfold f_X8_find at h
  change sw_G p l e (sw_R 1 0 0 22) s m args below meth c Q 3 A D cT σ 0 0 0 [(0, P_ (some p0)), (1, I_ q1)] []
  refine g_aload_n (pc := 0) K 0 rfl rfl dX8_find_0 ?_
  refine g_iload_n (pc := 1) K 1 rfl rfl dX8_find_1 ?_
  replace h := Option.bind_eq_some_iff.mp h
  obtain ⟨f1, e2, h⟩ := h
  replace h := Option.bind_eq_some_iff.mp h
  obtain ⟨x4, e3, h⟩ := h
  refine g_callV (pc := 2) (st := []) K [I_ q1] (c_X8_upTo _ _ _ _ _ _ e3) e2 cl_8 rfl tb_627 tb_624 tb_7 tb_626 sl_29 hd_X8_upTo ⟨Nat.le_of_ble_eq_true rfl, Nat.le_of_ble_eq_true rfl⟩ rfl (sw_rm (Nat.le_of_ble_eq_true rfl)) ⟨by show _ ≤ 0; omega, by show _ ≤ 0; omega⟩ dX8_find_2 ?_
  refine g_istore_n (pc := 5) K [(2, I_ x4), (0, P_ (some p0)), (1, I_ q1)] rfl (by decide) rfl dX8_find_5 ?_
  refine g_iload_n (pc := 6) K 0 rfl rfl dX8_find_6 ?_
  refine g_if_le (pc := 7) K 28 dX8_find_7 (by decide) (fun c5 => ?_) (fun c5 => ?_)
  · replace h := (if_pos c5).symm.trans h
    refine g_sub K [] rfl ?_
    exact w_X8_find_28 K hT   _ _ h (by omega) (by omega)
  · replace h := (if_neg c5).symm.trans h
    refine g_aload_n (pc := 10) K 1 rfl rfl dX8_find_10 ?_
    replace h := Option.bind_eq_some_iff.mp h
    obtain ⟨r6, e7, h⟩ := h
    refine g_getR (pc := 11) K cl_8 hin_X8 (k := 3) (by decide) tb_521 rfl e7 dX8_find_11 ?_
    refine g_iload_n (pc := 14) K 0 rfl rfl dX8_find_14 ?_
    refine g_iconst (pc := 15) (v := 1) K dX8_find_15 (by decide) ?_
    refine g_isub (pc := 16) K dX8_find_16 ?_
    replace h := Option.bind_eq_some_iff.mp h
    obtain ⟨a8, rfl, h⟩ := h
    replace h := Option.bind_eq_some_iff.mp h
    obtain ⟨x10, e9, h⟩ := h
    refine g_iald (pc := 17) K e9 dX8_find_17 ?_
    refine g_iload_n (pc := 18) K 2 rfl rfl dX8_find_18 ?_
    refine g_icmp_ne (pc := 19) K 28 dX8_find_19 (by decide) (fun c11 => ?_) (fun c11 => ?_)
    · replace h := (if_pos c11).symm.trans h
      refine g_iload_n (pc := 22) K 0 rfl rfl dX8_find_22 ?_
      refine g_iconst (pc := 23) (v := 1) K dX8_find_23 (by decide) ?_
      refine g_isub (pc := 24) K dX8_find_24 ?_
      refine g_goto (pc := 25) (tgt := 29) K dX8_find_25 (by decide) ?_
      refine g_sub K [] rfl ?_
      exact w_X8_find_29 K hT  _ _ _ h (by omega) (by omega)
    · replace h := (if_neg c11).symm.trans h
      refine g_sub K [] rfl ?_
      exact w_X8_find_28 K hT   _ _ h (by omega) (by omega)

def b_X8_holder_55 (v3 : Int32) (σ : sw_S) : Option Int32 :=
  some v3
set_option maxHeartbeats 4000000 in
set_option maxRecDepth 100000 in
theorem w_X8_holder_55 {p : Program} {l : Launch} {e : Env} {s : State} {m : MethodId} {args : Array Value} {below : List Frame} {meth : Method} {c : Code} {Q : State → Prop} {A : Nat → Prop} {D : va_G} {cT : Nat → ClassId} {σ : sw_S}  {r : Int32}  (K : sw_C p s m args c cX8_holder 5 RX8 A D cT) (hT : sw_Ti cX8_holder p l e (sw_R 0 0 0 0) s m args below meth c Q 5 A D cT 0 0 σ r) (v3 : Int32) (ce sl : Nat) (h : b_X8_holder_55 v3 σ = some r) (hce : ce + (0) ≤ 0) (hsl : sl + (0) ≤ 0) : sw_G p l e (sw_R 0 0 0 0) s m args below meth c Q 5 A D cT σ ce sl 55 [(3, I_ v3)] [] := by
  unfold b_X8_holder_55 at h
  refine g_iload_n (pc := 55) K 0 rfl rfl dX8_holder_55 ?_
  cases h
  exact hT _ _ 56 _ (by omega) (by omega) dX8_holder_56
def B_X8_holder_5 (rec5 : Nat → Int32 → Int32 → Int32 → sw_S → Option Int32) (v0 : Nat) (v1 : Int32) (v3 : Int32) (v4 : Int32) (σ : sw_S) : Option Int32 :=
  (sw_gR 8 v0 7 σ).bind fun r1 =>
  r1.bind fun a3 =>
  (sw_al 0 a3 v1 σ).bind fun x5 =>
  (if ((x5 - 1)) ≤ v3 then
  b_X8_holder_55 v3 σ
  else
  (sw_gR 8 v0 6 σ).bind fun r7 =>
  r7.bind fun a9 =>
  (sw_al 0 a9 ((((64 * v1)) + v3)) σ).bind fun x11 =>
  (if v4 < x11 then
  b_X8_holder_55 v3 σ
  else
  (sw_gR 8 v0 6 σ).bind fun r13 =>
  r13.bind fun a15 =>
  (sw_al 0 a15 ((((64 * v1)) + v3)) σ).bind fun x17 =>
  rec5 v0 v1 ((v3 + 1)) ((v4 - x17)) σ))
set_option maxHeartbeats 4000000 in
set_option maxRecDepth 100000 in
theorem wB_X8_holder_5 {p : Program} {l : Launch} {e : Env} {s : State} {m : MethodId} {args : Array Value} {below : List Frame} {meth : Method} {c : Code} {Q : State → Prop} {A : Nat → Prop} {D : va_G} {cT : Nat → ClassId} {σ : sw_S}  {r : Int32}  (K : sw_C p s m args c cX8_holder 5 RX8 A D cT) (hT : sw_Ti cX8_holder p l e (sw_R 0 0 0 0) s m args below meth c Q 5 A D cT 0 0 σ r) {rec5 : Nat → Int32 → Int32 → Int32 → sw_S → Option Int32} (hrec5 : ∀ (v0 : Nat) (v1 : Int32) (v3 : Int32) (v4 : Int32) (ce sl : Nat), rec5 v0 v1 v3 v4 σ = some r → ce + (0) ≤ 0 → sl + (0) ≤ 0 → sw_G p l e (sw_R 0 0 0 0) s m args below meth c Q 5 A D cT σ ce sl 5 [(0, P_ (some v0)), (1, I_ v1), (3, I_ v3), (4, I_ v4)] []) (v0 : Nat) (v1 : Int32) (v3 : Int32) (v4 : Int32) (ce sl : Nat) (h : B_X8_holder_5 rec5 v0 v1 v3 v4 σ = some r) (hce : ce + (0) ≤ 0) (hsl : sl + (0) ≤ 0) : sw_G p l e (sw_R 0 0 0 0) s m args below meth c Q 5 A D cT σ ce sl 5 [(0, P_ (some v0)), (1, I_ v1), (3, I_ v3), (4, I_ v4)] [] := by
  unfold B_X8_holder_5 at h
  refine g_iload_n (pc := 5) K 2 rfl rfl dX8_holder_5 ?_
  refine g_aload_n (pc := 6) K 0 rfl rfl dX8_holder_6 ?_
  replace h := Option.bind_eq_some_iff.mp h
  obtain ⟨r1, e2, h⟩ := h
  refine g_getR (pc := 7) K cl_8 hin_X8 (k := 7) (by decide) tb_525 rfl e2 dX8_holder_7 ?_
  refine g_iload_n (pc := 10) K 1 rfl rfl dX8_holder_10 ?_
  replace h := Option.bind_eq_some_iff.mp h
  obtain ⟨a3, rfl, h⟩ := h
  replace h := Option.bind_eq_some_iff.mp h
  obtain ⟨x5, e4, h⟩ := h
  refine g_iald (pc := 11) K e4 dX8_holder_11 ?_
  refine g_iconst (pc := 12) (v := 1) K dX8_holder_12 (by decide) ?_
  refine g_isub (pc := 13) K dX8_holder_13 ?_
  refine g_icmp_ge (pc := 14) K 55 dX8_holder_14 (by decide) (fun c6 => ?_) (fun c6 => ?_)
  · replace h := (if_pos c6).symm.trans h
    refine g_sub K [2] rfl ?_
    exact w_X8_holder_55 K hT  _ _ _ h (by omega) (by omega)
  · replace h := (if_neg c6).symm.trans h
    refine g_iload (pc := 17) K 3 rfl dX8_holder_17 ?_
    refine g_aload_n (pc := 19) K 0 rfl rfl dX8_holder_19 ?_
    replace h := Option.bind_eq_some_iff.mp h
    obtain ⟨r7, e8, h⟩ := h
    refine g_getR (pc := 20) K cl_8 hin_X8 (k := 6) (by decide) tb_524 rfl e8 dX8_holder_20 ?_
    refine g_bipush (pc := 23) (v := 64) K dX8_holder_23 (by decide) ?_
    refine g_iload_n (pc := 25) K 1 rfl rfl dX8_holder_25 ?_
    refine g_imul (pc := 26) K dX8_holder_26 ?_
    refine g_iload_n (pc := 27) K 2 rfl rfl dX8_holder_27 ?_
    refine g_iadd (pc := 28) K dX8_holder_28 ?_
    replace h := Option.bind_eq_some_iff.mp h
    obtain ⟨a9, rfl, h⟩ := h
    replace h := Option.bind_eq_some_iff.mp h
    obtain ⟨x11, e10, h⟩ := h
    refine g_iald (pc := 29) K e10 dX8_holder_29 ?_
    refine g_icmp_lt (pc := 30) K 55 dX8_holder_30 (by decide) (fun c12 => ?_) (fun c12 => ?_)
    · replace h := (if_pos c12).symm.trans h
      refine g_sub K [2] rfl ?_
      exact w_X8_holder_55 K hT  _ _ _ h (by omega) (by omega)
    · replace h := (if_neg c12).symm.trans h
      refine g_iload (pc := 33) K 3 rfl dX8_holder_33 ?_
      refine g_aload_n (pc := 35) K 0 rfl rfl dX8_holder_35 ?_
      replace h := Option.bind_eq_some_iff.mp h
      obtain ⟨r13, e14, h⟩ := h
      refine g_getR (pc := 36) K cl_8 hin_X8 (k := 6) (by decide) tb_524 rfl e14 dX8_holder_36 ?_
      refine g_bipush (pc := 39) (v := 64) K dX8_holder_39 (by decide) ?_
      refine g_iload_n (pc := 41) K 1 rfl rfl dX8_holder_41 ?_
      refine g_imul (pc := 42) K dX8_holder_42 ?_
      refine g_iload_n (pc := 43) K 2 rfl rfl dX8_holder_43 ?_
      refine g_iadd (pc := 44) K dX8_holder_44 ?_
      replace h := Option.bind_eq_some_iff.mp h
      obtain ⟨a15, rfl, h⟩ := h
      replace h := Option.bind_eq_some_iff.mp h
      obtain ⟨x17, e16, h⟩ := h
      refine g_iald (pc := 45) K e16 dX8_holder_45 ?_
      refine g_isub (pc := 46) K dX8_holder_46 ?_
      refine g_istore (pc := 47) K [(4, I_ ((v4 - x17))), (0, P_ (some v0)), (1, I_ v1), (3, I_ v3)] (by decide) rfl dX8_holder_47 ?_
      refine g_iinc (pc := 49) K 3 (v3 + 1) [(3, I_ ((v3 + 1))), (4, I_ ((v4 - x17))), (0, P_ (some v0)), (1, I_ v1)] rfl rfl (by decide) rfl dX8_holder_49 ?_
      refine g_goto (pc := 52) (tgt := 5) K dX8_holder_52 (by decide) ?_
      refine g_sub K [2, 3, 0, 1] rfl ?_
      exact hrec5 _ _ _ _ _ _ h (by omega) (by omega)
def b_X8_holder_5  : Nat → Nat → Int32 → Int32 → Int32 → sw_S → Option Int32
  | 0 => fun _ _ _ _ _ => none
  | n + 1 => B_X8_holder_5 (b_X8_holder_5  n)
theorem wl_X8_holder_5 {p : Program} {l : Launch} {e : Env} {s : State} {m : MethodId} {args : Array Value} {below : List Frame} {meth : Method} {c : Code} {Q : State → Prop} {A : Nat → Prop} {D : va_G} {cT : Nat → ClassId} {σ : sw_S}  {r : Int32}  (K : sw_C p s m args c cX8_holder 5 RX8 A D cT) (hT : sw_Ti cX8_holder p l e (sw_R 0 0 0 0) s m args below meth c Q 5 A D cT 0 0 σ r) : ∀ (n : Nat) (v0 : Nat) (v1 : Int32) (v3 : Int32) (v4 : Int32) (ce sl : Nat), b_X8_holder_5  n v0 v1 v3 v4 σ = some r → ce + (0) ≤ 0 → sl + (0) ≤ 0 → sw_G p l e (sw_R 0 0 0 0) s m args below meth c Q 5 A D cT σ ce sl 5 [(0, P_ (some v0)), (1, I_ v1), (3, I_ v3), (4, I_ v4)] [] := by
  intro n
  induction n with
  | zero =>
    intro v0 v1 v3 v4 ce sl h
    exact absurd (show none = some r from h) (by simp)
  | succ n ih =>
    intro v0 v1 v3 v4 ce sl h hce hsl
    exact wB_X8_holder_5 K hT (fun _ _ _ _ _ _ h h1 h2 => ih _ _ _ _ _ _ h h1 h2) _ _ _ _ _ _ h hce hsl
def f_X8_holder (p0 : Nat) (q1 : Int32) (q2 : Int32) (σ : sw_S) : Option Int32 :=
  b_X8_holder_5 1000 p0 q1 0 q2 σ
set_option maxHeartbeats 4000000 in
set_option maxRecDepth 100000 in
theorem c_X8_holder  (l : Launch) (D : va_G) (cT : Nat → ClassId) (p0 : Nat) (q1 : Int32) (q2 : Int32) (σ : sw_S) {r : Int32} (h : f_X8_holder p0 q1 q2 σ = some r) : sw_M l D cT yX8_holder cX8_holder 5 (some .int) 0 0 0 0 σ [P_ (some p0), I_ q1, I_ q2] (some (I_ r)) σ := by
  refine sw_met_i (by decide) (Nat.le_of_ble_eq_true rfl) (fun p e s m args below meth c A Q K hnm hT => ?_)
  have hce : 0 + 0 ≤ 0 := Nat.le_of_ble_eq_true rfl
  have hsl : 0 + 0 ≤ 0 := Nat.le_of_ble_eq_true rfl
  unfold f_X8_holder at h
  change sw_G p l e (sw_R 0 0 0 0) s m args below meth c Q 5 A D cT σ 0 0 0 [(0, P_ (some p0)), (1, I_ q1), (2, I_ q2)] []
  refine g_iconst (pc := 0) (v := 0) K dX8_holder_0 (by decide) ?_
  refine g_istore_n (pc := 1) K [(3, I_ 0), (0, P_ (some p0)), (1, I_ q1), (2, I_ q2)] rfl (by decide) rfl dX8_holder_1 ?_
  refine g_iload_n (pc := 2) K 3 rfl rfl dX8_holder_2 ?_
  refine g_istore (pc := 3) K [(4, I_ q2), (3, I_ 0), (0, P_ (some p0)), (1, I_ q1), (2, I_ q2)] (by decide) rfl dX8_holder_3 ?_
  refine g_sub K [2, 3, 1, 0] rfl ?_
  exact wl_X8_holder_5 K hT  1000 _ _ _ _ _ _ h (by omega) (by omega)

def B_X8_placeIn_6 (rec6 : Nat → Int32 → Int32 → Int32 → Int32 → sw_S → Option Int32) (v0 : Nat) (v1 : Int32) (v3 : Int32) (v4 : Int32) (v5 : Int32) (σ : sw_S) : Option Int32 :=
  (if v3 ≤ v5 then
  some v4
  else
  (sw_gR 8 v0 6 σ).bind fun r2 =>
  r2.bind fun a4 =>
  (sw_al 0 a4 ((((64 * ((v1 + 1)))) + v5)) σ).bind fun x6 =>
  rec6 v0 v1 v3 ((v4 - x6)) ((v5 + 1)) σ)
set_option maxHeartbeats 4000000 in
set_option maxRecDepth 100000 in
theorem wB_X8_placeIn_6 {p : Program} {l : Launch} {e : Env} {s : State} {m : MethodId} {args : Array Value} {below : List Frame} {meth : Method} {c : Code} {Q : State → Prop} {A : Nat → Prop} {D : va_G} {cT : Nat → ClassId} {σ : sw_S}  {r : Int32}  (K : sw_C p s m args c cX8_placeIn 6 RX8 A D cT) (hT : sw_Ti cX8_placeIn p l e (sw_R 0 0 0 0) s m args below meth c Q 6 A D cT 0 0 σ r) {rec6 : Nat → Int32 → Int32 → Int32 → Int32 → sw_S → Option Int32} (hrec6 : ∀ (v0 : Nat) (v1 : Int32) (v3 : Int32) (v4 : Int32) (v5 : Int32) (ce sl : Nat), rec6 v0 v1 v3 v4 v5 σ = some r → ce + (0) ≤ 0 → sl + (0) ≤ 0 → sw_G p l e (sw_R 0 0 0 0) s m args below meth c Q 6 A D cT σ ce sl 6 [(0, P_ (some v0)), (1, I_ v1), (3, I_ v3), (4, I_ v4), (5, I_ v5)] []) (v0 : Nat) (v1 : Int32) (v3 : Int32) (v4 : Int32) (v5 : Int32) (ce sl : Nat) (h : B_X8_placeIn_6 rec6 v0 v1 v3 v4 v5 σ = some r) (hce : ce + (0) ≤ 0) (hsl : sl + (0) ≤ 0) : sw_G p l e (sw_R 0 0 0 0) s m args below meth c Q 6 A D cT σ ce sl 6 [(0, P_ (some v0)), (1, I_ v1), (3, I_ v3), (4, I_ v4), (5, I_ v5)] [] := by
  unfold B_X8_placeIn_6 at h
  refine g_iload (pc := 6) K 4 rfl dX8_placeIn_6 ?_
  refine g_iload_n (pc := 8) K 2 rfl rfl dX8_placeIn_8 ?_
  refine g_icmp_ge (pc := 9) K 37 dX8_placeIn_9 (by decide) (fun c1 => ?_) (fun c1 => ?_)
  · replace h := (if_pos c1).symm.trans h
    refine g_iload (pc := 37) K 3 rfl dX8_placeIn_37 ?_
    cases h
    exact hT _ _ 39 _ (by omega) (by omega) dX8_placeIn_39
  · replace h := (if_neg c1).symm.trans h
    refine g_iload (pc := 12) K 3 rfl dX8_placeIn_12 ?_
    refine g_aload_n (pc := 14) K 0 rfl rfl dX8_placeIn_14 ?_
    replace h := Option.bind_eq_some_iff.mp h
    obtain ⟨r2, e3, h⟩ := h
    refine g_getR (pc := 15) K cl_8 hin_X8 (k := 6) (by decide) tb_524 rfl e3 dX8_placeIn_15 ?_
    refine g_bipush (pc := 18) (v := 64) K dX8_placeIn_18 (by decide) ?_
    refine g_iload_n (pc := 20) K 1 rfl rfl dX8_placeIn_20 ?_
    refine g_iconst (pc := 21) (v := 1) K dX8_placeIn_21 (by decide) ?_
    refine g_iadd (pc := 22) K dX8_placeIn_22 ?_
    refine g_imul (pc := 23) K dX8_placeIn_23 ?_
    refine g_iload (pc := 24) K 4 rfl dX8_placeIn_24 ?_
    refine g_iadd (pc := 26) K dX8_placeIn_26 ?_
    replace h := Option.bind_eq_some_iff.mp h
    obtain ⟨a4, rfl, h⟩ := h
    replace h := Option.bind_eq_some_iff.mp h
    obtain ⟨x6, e5, h⟩ := h
    refine g_iald (pc := 27) K e5 dX8_placeIn_27 ?_
    refine g_isub (pc := 28) K dX8_placeIn_28 ?_
    refine g_istore (pc := 29) K [(4, I_ ((v4 - x6))), (0, P_ (some v0)), (1, I_ v1), (3, I_ v3), (5, I_ v5)] (by decide) rfl dX8_placeIn_29 ?_
    refine g_iinc (pc := 31) K 4 (v5 + 1) [(5, I_ ((v5 + 1))), (4, I_ ((v4 - x6))), (0, P_ (some v0)), (1, I_ v1), (3, I_ v3)] rfl rfl (by decide) rfl dX8_placeIn_31 ?_
    refine g_goto (pc := 34) (tgt := 6) K dX8_placeIn_34 (by decide) ?_
    refine g_sub K [2, 3, 4, 1, 0] rfl ?_
    exact hrec6 _ _ _ _ _ _ _ h (by omega) (by omega)
def b_X8_placeIn_6  : Nat → Nat → Int32 → Int32 → Int32 → Int32 → sw_S → Option Int32
  | 0 => fun _ _ _ _ _ _ => none
  | n + 1 => B_X8_placeIn_6 (b_X8_placeIn_6  n)
theorem wl_X8_placeIn_6 {p : Program} {l : Launch} {e : Env} {s : State} {m : MethodId} {args : Array Value} {below : List Frame} {meth : Method} {c : Code} {Q : State → Prop} {A : Nat → Prop} {D : va_G} {cT : Nat → ClassId} {σ : sw_S}  {r : Int32}  (K : sw_C p s m args c cX8_placeIn 6 RX8 A D cT) (hT : sw_Ti cX8_placeIn p l e (sw_R 0 0 0 0) s m args below meth c Q 6 A D cT 0 0 σ r) : ∀ (n : Nat) (v0 : Nat) (v1 : Int32) (v3 : Int32) (v4 : Int32) (v5 : Int32) (ce sl : Nat), b_X8_placeIn_6  n v0 v1 v3 v4 v5 σ = some r → ce + (0) ≤ 0 → sl + (0) ≤ 0 → sw_G p l e (sw_R 0 0 0 0) s m args below meth c Q 6 A D cT σ ce sl 6 [(0, P_ (some v0)), (1, I_ v1), (3, I_ v3), (4, I_ v4), (5, I_ v5)] [] := by
  intro n
  induction n with
  | zero =>
    intro v0 v1 v3 v4 v5 ce sl h
    exact absurd (show none = some r from h) (by simp)
  | succ n ih =>
    intro v0 v1 v3 v4 v5 ce sl h hce hsl
    exact wB_X8_placeIn_6 K hT (fun _ _ _ _ _ _ _ h h1 h2 => ih _ _ _ _ _ _ _ h h1 h2) _ _ _ _ _ _ _ h hce hsl
def f_X8_placeIn (p0 : Nat) (q1 : Int32) (q2 : Int32) (q3 : Int32) (σ : sw_S) : Option Int32 :=
  b_X8_placeIn_6 1000 p0 q1 q3 q2 0 σ
set_option maxHeartbeats 4000000 in
set_option maxRecDepth 100000 in
theorem c_X8_placeIn  (l : Launch) (D : va_G) (cT : Nat → ClassId) (p0 : Nat) (q1 : Int32) (q2 : Int32) (q3 : Int32) (σ : sw_S) {r : Int32} (h : f_X8_placeIn p0 q1 q2 q3 σ = some r) : sw_M l D cT yX8_placeIn cX8_placeIn 6 (some .int) 0 0 0 0 σ [P_ (some p0), I_ q1, I_ q2, I_ q3] (some (I_ r)) σ := by
  refine sw_met_i (by decide) (Nat.le_of_ble_eq_true rfl) (fun p e s m args below meth c A Q K hnm hT => ?_)
  have hce : 0 + 0 ≤ 0 := Nat.le_of_ble_eq_true rfl
  have hsl : 0 + 0 ≤ 0 := Nat.le_of_ble_eq_true rfl
  unfold f_X8_placeIn at h
  change sw_G p l e (sw_R 0 0 0 0) s m args below meth c Q 6 A D cT σ 0 0 0 [(0, P_ (some p0)), (1, I_ q1), (2, I_ q2), (3, I_ q3)] []
  refine g_iload_n (pc := 0) K 2 rfl rfl dX8_placeIn_0 ?_
  refine g_istore (pc := 1) K [(4, I_ q2), (0, P_ (some p0)), (1, I_ q1), (2, I_ q2), (3, I_ q3)] (by decide) rfl dX8_placeIn_1 ?_
  refine g_iconst (pc := 3) (v := 0) K dX8_placeIn_3 (by decide) ?_
  refine g_istore (pc := 4) K [(5, I_ 0), (4, I_ q2), (0, P_ (some p0)), (1, I_ q1), (2, I_ q2), (3, I_ q3)] (by decide) rfl dX8_placeIn_4 ?_
  refine g_sub K [2, 3, 5, 1, 0] rfl ?_
  exact wl_X8_placeIn_6 K hT  1000 _ _ _ _ _ _ _ h (by omega) (by omega)

def B_X8_insertNode_8 (rec8 : Nat → Int32 → Int32 → Int32 → Int32 → sw_S → Option sw_S) (v0 : Nat) (v1 : Int32) (v2 : Int32) (v3 : Int32) (v4 : Int32) (σ : sw_S) : Option sw_S :=
  (if v4 ≤ v2 then
  (sw_gR 8 v0 6 σ).bind fun r2 =>
  r2.bind fun a4 =>
  (sw_as 0 a4 ((((64 * v1)) + v2)) v3 σ).bind fun σ6 =>
  (sw_gR 8 v0 7 σ6).bind fun r7 =>
  r7.bind fun a9 =>
  (sw_al 0 a9 v1 σ6).bind fun x11 =>
  (sw_as 0 a9 v1 ((x11 + 1)) σ6).bind fun σ13 =>
  some σ13
  else
  (sw_gR 8 v0 6 σ).bind fun r14 =>
  (sw_gR 8 v0 6 σ).bind fun r16 =>
  r16.bind fun a18 =>
  (sw_al 0 a18 ((((((64 * v1)) + v4)) - 1)) σ).bind fun x20 =>
  r14.bind fun a21 =>
  (sw_as 0 a21 ((((64 * v1)) + v4)) x20 σ).bind fun σ23 =>
  rec8 v0 v1 v2 v3 ((v4 + (-1))) σ23)
set_option maxHeartbeats 4000000 in
set_option maxRecDepth 100000 in
theorem wB_X8_insertNode_8 {p : Program} {l : Launch} {e : Env} {s : State} {m : MethodId} {args : Array Value} {below : List Frame} {meth : Method} {c : Code} {Q : State → Prop} {A : Nat → Prop} {D : va_G} {cT : Nat → ClassId} {σ' : sw_S}  (K : sw_C p s m args c cX8_insertNode 5 RX8 A D cT) (hT : sw_Tv cX8_insertNode p l e (sw_R 0 0 0 0) s m args below meth c Q 5 A D cT 0 0 σ') {rec8 : Nat → Int32 → Int32 → Int32 → Int32 → sw_S → Option sw_S} (hrec8 : ∀ (v0 : Nat) (v1 : Int32) (v2 : Int32) (v3 : Int32) (v4 : Int32) (σ : sw_S) (ce sl : Nat), rec8 v0 v1 v2 v3 v4 σ = some σ' → ce + (0) ≤ 0 → sl + (0) ≤ 0 → sw_G p l e (sw_R 0 0 0 0) s m args below meth c Q 5 A D cT σ ce sl 8 [(0, P_ (some v0)), (1, I_ v1), (2, I_ v2), (3, I_ v3), (4, I_ v4)] []) (v0 : Nat) (v1 : Int32) (v2 : Int32) (v3 : Int32) (v4 : Int32) (σ : sw_S)  (ce sl : Nat) (h : B_X8_insertNode_8 rec8 v0 v1 v2 v3 v4 σ = some σ') (hce : ce + (0) ≤ 0) (hsl : sl + (0) ≤ 0) : sw_G p l e (sw_R 0 0 0 0) s m args below meth c Q 5 A D cT σ ce sl 8 [(0, P_ (some v0)), (1, I_ v1), (2, I_ v2), (3, I_ v3), (4, I_ v4)] [] := by
  unfold B_X8_insertNode_8 at h
  refine g_iload (pc := 8) K 4 rfl dX8_insertNode_8 ?_
  refine g_iload_n (pc := 10) K 2 rfl rfl dX8_insertNode_10 ?_
  refine g_icmp_le (pc := 11) K 46 dX8_insertNode_11 (by decide) (fun c1 => ?_) (fun c1 => ?_)
  · replace h := (if_pos c1).symm.trans h
    refine g_aload_n (pc := 46) K 0 rfl rfl dX8_insertNode_46 ?_
    replace h := Option.bind_eq_some_iff.mp h
    obtain ⟨r2, e3, h⟩ := h
    refine g_getR (pc := 47) K cl_8 hin_X8 (k := 6) (by decide) tb_524 rfl e3 dX8_insertNode_47 ?_
    refine g_bipush (pc := 50) (v := 64) K dX8_insertNode_50 (by decide) ?_
    refine g_iload_n (pc := 52) K 1 rfl rfl dX8_insertNode_52 ?_
    refine g_imul (pc := 53) K dX8_insertNode_53 ?_
    refine g_iload_n (pc := 54) K 2 rfl rfl dX8_insertNode_54 ?_
    refine g_iadd (pc := 55) K dX8_insertNode_55 ?_
    refine g_iload_n (pc := 56) K 3 rfl rfl dX8_insertNode_56 ?_
    replace h := Option.bind_eq_some_iff.mp h
    obtain ⟨a4, rfl, h⟩ := h
    replace h := Option.bind_eq_some_iff.mp h
    obtain ⟨σ6, e5, h⟩ := h
    refine g_iast (pc := 57) K e5 dX8_insertNode_57 ?_
    refine g_aload_n (pc := 58) K 0 rfl rfl dX8_insertNode_58 ?_
    replace h := Option.bind_eq_some_iff.mp h
    obtain ⟨r7, e8, h⟩ := h
    refine g_getR (pc := 59) K cl_8 hin_X8 (k := 7) (by decide) tb_525 rfl e8 dX8_insertNode_59 ?_
    refine g_iload_n (pc := 62) K 1 rfl rfl dX8_insertNode_62 ?_
    refine g_dup2 (pc := 63) K rfl rfl dX8_insertNode_63 ?_
    replace h := Option.bind_eq_some_iff.mp h
    obtain ⟨a9, rfl, h⟩ := h
    replace h := Option.bind_eq_some_iff.mp h
    obtain ⟨x11, e10, h⟩ := h
    refine g_iald (pc := 64) K e10 dX8_insertNode_64 ?_
    refine g_iconst (pc := 65) (v := 1) K dX8_insertNode_65 (by decide) ?_
    refine g_iadd (pc := 66) K dX8_insertNode_66 ?_
    replace h := Option.bind_eq_some_iff.mp h
    obtain ⟨σ13, e12, h⟩ := h
    refine g_iast (pc := 67) K e12 dX8_insertNode_67 ?_
    cases h
    exact hT _ _ 68 _ (by omega) (by omega) dX8_insertNode_68
  · replace h := (if_neg c1).symm.trans h
    refine g_aload_n (pc := 14) K 0 rfl rfl dX8_insertNode_14 ?_
    replace h := Option.bind_eq_some_iff.mp h
    obtain ⟨r14, e15, h⟩ := h
    refine g_getR (pc := 15) K cl_8 hin_X8 (k := 6) (by decide) tb_524 rfl e15 dX8_insertNode_15 ?_
    refine g_bipush (pc := 18) (v := 64) K dX8_insertNode_18 (by decide) ?_
    refine g_iload_n (pc := 20) K 1 rfl rfl dX8_insertNode_20 ?_
    refine g_imul (pc := 21) K dX8_insertNode_21 ?_
    refine g_iload (pc := 22) K 4 rfl dX8_insertNode_22 ?_
    refine g_iadd (pc := 24) K dX8_insertNode_24 ?_
    refine g_aload_n (pc := 25) K 0 rfl rfl dX8_insertNode_25 ?_
    replace h := Option.bind_eq_some_iff.mp h
    obtain ⟨r16, e17, h⟩ := h
    refine g_getR (pc := 26) K cl_8 hin_X8 (k := 6) (by decide) tb_524 rfl e17 dX8_insertNode_26 ?_
    refine g_bipush (pc := 29) (v := 64) K dX8_insertNode_29 (by decide) ?_
    refine g_iload_n (pc := 31) K 1 rfl rfl dX8_insertNode_31 ?_
    refine g_imul (pc := 32) K dX8_insertNode_32 ?_
    refine g_iload (pc := 33) K 4 rfl dX8_insertNode_33 ?_
    refine g_iadd (pc := 35) K dX8_insertNode_35 ?_
    refine g_iconst (pc := 36) (v := 1) K dX8_insertNode_36 (by decide) ?_
    refine g_isub (pc := 37) K dX8_insertNode_37 ?_
    replace h := Option.bind_eq_some_iff.mp h
    obtain ⟨a18, rfl, h⟩ := h
    replace h := Option.bind_eq_some_iff.mp h
    obtain ⟨x20, e19, h⟩ := h
    refine g_iald (pc := 38) K e19 dX8_insertNode_38 ?_
    replace h := Option.bind_eq_some_iff.mp h
    obtain ⟨a21, rfl, h⟩ := h
    replace h := Option.bind_eq_some_iff.mp h
    obtain ⟨σ23, e22, h⟩ := h
    refine g_iast (pc := 39) K e22 dX8_insertNode_39 ?_
    refine g_iinc (pc := 40) K 4 (v4 + (-1)) [(4, I_ ((v4 + (-1)))), (0, P_ (some v0)), (1, I_ v1), (2, I_ v2), (3, I_ v3)] rfl (congrArg (fun z => v4 + z) (by decide : Int32.ofInt (-1) = (-1))) (by decide) rfl dX8_insertNode_40 ?_
    refine g_goto (pc := 43) (tgt := 8) K dX8_insertNode_43 (by decide) ?_
    refine g_sub K [1, 2, 3, 4, 0] rfl ?_
    exact hrec8 _ _ _ _ _ _ _ _ h (by omega) (by omega)
def b_X8_insertNode_8  : Nat → Nat → Int32 → Int32 → Int32 → Int32 → sw_S → Option sw_S
  | 0 => fun _ _ _ _ _ _ => none
  | n + 1 => B_X8_insertNode_8 (b_X8_insertNode_8  n)
theorem wl_X8_insertNode_8 {p : Program} {l : Launch} {e : Env} {s : State} {m : MethodId} {args : Array Value} {below : List Frame} {meth : Method} {c : Code} {Q : State → Prop} {A : Nat → Prop} {D : va_G} {cT : Nat → ClassId} {σ' : sw_S}  (K : sw_C p s m args c cX8_insertNode 5 RX8 A D cT) (hT : sw_Tv cX8_insertNode p l e (sw_R 0 0 0 0) s m args below meth c Q 5 A D cT 0 0 σ') : ∀ (n : Nat) (v0 : Nat) (v1 : Int32) (v2 : Int32) (v3 : Int32) (v4 : Int32) (σ : sw_S) (ce sl : Nat), b_X8_insertNode_8  n v0 v1 v2 v3 v4 σ = some σ' → ce + (0) ≤ 0 → sl + (0) ≤ 0 → sw_G p l e (sw_R 0 0 0 0) s m args below meth c Q 5 A D cT σ ce sl 8 [(0, P_ (some v0)), (1, I_ v1), (2, I_ v2), (3, I_ v3), (4, I_ v4)] [] := by
  intro n
  induction n with
  | zero =>
    intro v0 v1 v2 v3 v4 σ ce sl h
    exact absurd (show none = some σ' from h) (by simp)
  | succ n ih =>
    intro v0 v1 v2 v3 v4 σ ce sl h hce hsl
    exact wB_X8_insertNode_8 K hT (fun _ _ _ _ _ _ _ _ h h1 h2 => ih _ _ _ _ _ _ _ _ h h1 h2) _ _ _ _ _ _ _ _ h hce hsl
def f_X8_insertNode (p0 : Nat) (q1 : Int32) (q2 : Int32) (q3 : Int32) (σ : sw_S) : Option sw_S :=
  (sw_gR 8 p0 7 σ).bind fun r1 =>
  r1.bind fun a3 =>
  (sw_al 0 a3 q1 σ).bind fun x5 =>
  b_X8_insertNode_8 1000 p0 q1 q2 q3 x5 σ
set_option maxHeartbeats 4000000 in
set_option maxRecDepth 100000 in
theorem c_X8_insertNode  (l : Launch) (D : va_G) (cT : Nat → ClassId) (p0 : Nat) (q1 : Int32) (q2 : Int32) (q3 : Int32) (σ : sw_S) {σ' : sw_S} (h : f_X8_insertNode p0 q1 q2 q3 σ = some σ') : sw_M l D cT yX8_insertNode cX8_insertNode 5 none 0 0 0 0 σ [P_ (some p0), I_ q1, I_ q2, I_ q3] none σ' := by
  refine sw_met_v (by decide) (Nat.le_of_ble_eq_true rfl) (fun p e s m args below meth c A Q K hnm hT => ?_)
  have hce : 0 + 0 ≤ 0 := Nat.le_of_ble_eq_true rfl
  have hsl : 0 + 0 ≤ 0 := Nat.le_of_ble_eq_true rfl
  unfold f_X8_insertNode at h
  change sw_G p l e (sw_R 0 0 0 0) s m args below meth c Q 5 A D cT σ 0 0 0 [(0, P_ (some p0)), (1, I_ q1), (2, I_ q2), (3, I_ q3)] []
  refine g_aload_n (pc := 0) K 0 rfl rfl dX8_insertNode_0 ?_
  replace h := Option.bind_eq_some_iff.mp h
  obtain ⟨r1, e2, h⟩ := h
  refine g_getR (pc := 1) K cl_8 hin_X8 (k := 7) (by decide) tb_525 rfl e2 dX8_insertNode_1 ?_
  refine g_iload_n (pc := 4) K 1 rfl rfl dX8_insertNode_4 ?_
  replace h := Option.bind_eq_some_iff.mp h
  obtain ⟨a3, rfl, h⟩ := h
  replace h := Option.bind_eq_some_iff.mp h
  obtain ⟨x5, e4, h⟩ := h
  refine g_iald (pc := 5) K e4 dX8_insertNode_5 ?_
  refine g_istore (pc := 6) K [(4, I_ x5), (0, P_ (some p0)), (1, I_ q1), (2, I_ q2), (3, I_ q3)] (by decide) rfl dX8_insertNode_6 ?_
  refine g_sub K [1, 2, 3, 4, 0] rfl ?_
  exact wl_X8_insertNode_8 K hT  1000 _ _ _ _ _ _ _ _ h (by omega) (by omega)

def B_X8_removeNode_12 (rec12 : Nat → Int32 → Int32 → sw_S → Option sw_S) (v0 : Nat) (v1 : Int32) (v3 : Int32) (σ : sw_S) : Option sw_S :=
  (sw_gR 8 v0 7 σ).bind fun r1 =>
  r1.bind fun a3 =>
  (sw_al 0 a3 v1 σ).bind fun x5 =>
  (if x5 ≤ v3 then
  some σ
  else
  (sw_gR 8 v0 6 σ).bind fun r7 =>
  (sw_gR 8 v0 6 σ).bind fun r9 =>
  r9.bind fun a11 =>
  (sw_al 0 a11 ((((((64 * v1)) + v3)) + 1)) σ).bind fun x13 =>
  r7.bind fun a14 =>
  (sw_as 0 a14 ((((64 * v1)) + v3)) x13 σ).bind fun σ16 =>
  rec12 v0 v1 ((v3 + 1)) σ16)
set_option maxHeartbeats 4000000 in
set_option maxRecDepth 100000 in
theorem wB_X8_removeNode_12 {p : Program} {l : Launch} {e : Env} {s : State} {m : MethodId} {args : Array Value} {below : List Frame} {meth : Method} {c : Code} {Q : State → Prop} {A : Nat → Prop} {D : va_G} {cT : Nat → ClassId} {σ' : sw_S}  (K : sw_C p s m args c cX8_removeNode 4 RX8 A D cT) (hT : sw_Tv cX8_removeNode p l e (sw_R 0 0 0 0) s m args below meth c Q 4 A D cT 0 0 σ') {rec12 : Nat → Int32 → Int32 → sw_S → Option sw_S} (hrec12 : ∀ (v0 : Nat) (v1 : Int32) (v3 : Int32) (σ : sw_S) (ce sl : Nat), rec12 v0 v1 v3 σ = some σ' → ce + (0) ≤ 0 → sl + (0) ≤ 0 → sw_G p l e (sw_R 0 0 0 0) s m args below meth c Q 4 A D cT σ ce sl 12 [(0, P_ (some v0)), (1, I_ v1), (3, I_ v3)] []) (v0 : Nat) (v1 : Int32) (v3 : Int32) (σ : sw_S)  (ce sl : Nat) (h : B_X8_removeNode_12 rec12 v0 v1 v3 σ = some σ') (hce : ce + (0) ≤ 0) (hsl : sl + (0) ≤ 0) : sw_G p l e (sw_R 0 0 0 0) s m args below meth c Q 4 A D cT σ ce sl 12 [(0, P_ (some v0)), (1, I_ v1), (3, I_ v3)] [] := by
  unfold B_X8_removeNode_12 at h
  refine g_iload_n (pc := 12) K 2 rfl rfl dX8_removeNode_12 ?_
  refine g_aload_n (pc := 13) K 0 rfl rfl dX8_removeNode_13 ?_
  replace h := Option.bind_eq_some_iff.mp h
  obtain ⟨r1, e2, h⟩ := h
  refine g_getR (pc := 14) K cl_8 hin_X8 (k := 7) (by decide) tb_525 rfl e2 dX8_removeNode_14 ?_
  refine g_iload_n (pc := 17) K 1 rfl rfl dX8_removeNode_17 ?_
  replace h := Option.bind_eq_some_iff.mp h
  obtain ⟨a3, rfl, h⟩ := h
  replace h := Option.bind_eq_some_iff.mp h
  obtain ⟨x5, e4, h⟩ := h
  refine g_iald (pc := 18) K e4 dX8_removeNode_18 ?_
  refine g_icmp_ge (pc := 19) K 52 dX8_removeNode_19 (by decide) (fun c6 => ?_) (fun c6 => ?_)
  · replace h := (if_pos c6).symm.trans h
    cases h
    exact hT _ _ 52 _ (by omega) (by omega) dX8_removeNode_52
  · replace h := (if_neg c6).symm.trans h
    refine g_aload_n (pc := 22) K 0 rfl rfl dX8_removeNode_22 ?_
    replace h := Option.bind_eq_some_iff.mp h
    obtain ⟨r7, e8, h⟩ := h
    refine g_getR (pc := 23) K cl_8 hin_X8 (k := 6) (by decide) tb_524 rfl e8 dX8_removeNode_23 ?_
    refine g_bipush (pc := 26) (v := 64) K dX8_removeNode_26 (by decide) ?_
    refine g_iload_n (pc := 28) K 1 rfl rfl dX8_removeNode_28 ?_
    refine g_imul (pc := 29) K dX8_removeNode_29 ?_
    refine g_iload_n (pc := 30) K 2 rfl rfl dX8_removeNode_30 ?_
    refine g_iadd (pc := 31) K dX8_removeNode_31 ?_
    refine g_aload_n (pc := 32) K 0 rfl rfl dX8_removeNode_32 ?_
    replace h := Option.bind_eq_some_iff.mp h
    obtain ⟨r9, e10, h⟩ := h
    refine g_getR (pc := 33) K cl_8 hin_X8 (k := 6) (by decide) tb_524 rfl e10 dX8_removeNode_33 ?_
    refine g_bipush (pc := 36) (v := 64) K dX8_removeNode_36 (by decide) ?_
    refine g_iload_n (pc := 38) K 1 rfl rfl dX8_removeNode_38 ?_
    refine g_imul (pc := 39) K dX8_removeNode_39 ?_
    refine g_iload_n (pc := 40) K 2 rfl rfl dX8_removeNode_40 ?_
    refine g_iadd (pc := 41) K dX8_removeNode_41 ?_
    refine g_iconst (pc := 42) (v := 1) K dX8_removeNode_42 (by decide) ?_
    refine g_iadd (pc := 43) K dX8_removeNode_43 ?_
    replace h := Option.bind_eq_some_iff.mp h
    obtain ⟨a11, rfl, h⟩ := h
    replace h := Option.bind_eq_some_iff.mp h
    obtain ⟨x13, e12, h⟩ := h
    refine g_iald (pc := 44) K e12 dX8_removeNode_44 ?_
    replace h := Option.bind_eq_some_iff.mp h
    obtain ⟨a14, rfl, h⟩ := h
    replace h := Option.bind_eq_some_iff.mp h
    obtain ⟨σ16, e15, h⟩ := h
    refine g_iast (pc := 45) K e15 dX8_removeNode_45 ?_
    refine g_iinc (pc := 46) K 2 (v3 + 1) [(3, I_ ((v3 + 1))), (0, P_ (some v0)), (1, I_ v1)] rfl rfl (by decide) rfl dX8_removeNode_46 ?_
    refine g_goto (pc := 49) (tgt := 12) K dX8_removeNode_49 (by decide) ?_
    refine g_sub K [1, 2, 0] rfl ?_
    exact hrec12 _ _ _ _ _ _ h (by omega) (by omega)
def b_X8_removeNode_12  : Nat → Nat → Int32 → Int32 → sw_S → Option sw_S
  | 0 => fun _ _ _ _ => none
  | n + 1 => B_X8_removeNode_12 (b_X8_removeNode_12  n)
theorem wl_X8_removeNode_12 {p : Program} {l : Launch} {e : Env} {s : State} {m : MethodId} {args : Array Value} {below : List Frame} {meth : Method} {c : Code} {Q : State → Prop} {A : Nat → Prop} {D : va_G} {cT : Nat → ClassId} {σ' : sw_S}  (K : sw_C p s m args c cX8_removeNode 4 RX8 A D cT) (hT : sw_Tv cX8_removeNode p l e (sw_R 0 0 0 0) s m args below meth c Q 4 A D cT 0 0 σ') : ∀ (n : Nat) (v0 : Nat) (v1 : Int32) (v3 : Int32) (σ : sw_S) (ce sl : Nat), b_X8_removeNode_12  n v0 v1 v3 σ = some σ' → ce + (0) ≤ 0 → sl + (0) ≤ 0 → sw_G p l e (sw_R 0 0 0 0) s m args below meth c Q 4 A D cT σ ce sl 12 [(0, P_ (some v0)), (1, I_ v1), (3, I_ v3)] [] := by
  intro n
  induction n with
  | zero =>
    intro v0 v1 v3 σ ce sl h
    exact absurd (show none = some σ' from h) (by simp)
  | succ n ih =>
    intro v0 v1 v3 σ ce sl h hce hsl
    exact wB_X8_removeNode_12 K hT (fun _ _ _ _ _ _ h h1 h2 => ih _ _ _ _ _ _ h h1 h2) _ _ _ _ _ _ h hce hsl
def f_X8_removeNode (p0 : Nat) (q1 : Int32) (q2 : Int32) (σ : sw_S) : Option sw_S :=
  (sw_gR 8 p0 7 σ).bind fun r1 =>
  r1.bind fun a3 =>
  (sw_al 0 a3 q1 σ).bind fun x5 =>
  (sw_as 0 a3 q1 ((x5 - 1)) σ).bind fun σ7 =>
  b_X8_removeNode_12 1000 p0 q1 q2 σ7
set_option maxHeartbeats 4000000 in
set_option maxRecDepth 100000 in
theorem c_X8_removeNode  (l : Launch) (D : va_G) (cT : Nat → ClassId) (p0 : Nat) (q1 : Int32) (q2 : Int32) (σ : sw_S) {σ' : sw_S} (h : f_X8_removeNode p0 q1 q2 σ = some σ') : sw_M l D cT yX8_removeNode cX8_removeNode 4 none 0 0 0 0 σ [P_ (some p0), I_ q1, I_ q2] none σ' := by
  refine sw_met_v (by decide) (Nat.le_of_ble_eq_true rfl) (fun p e s m args below meth c A Q K hnm hT => ?_)
  have hce : 0 + 0 ≤ 0 := Nat.le_of_ble_eq_true rfl
  have hsl : 0 + 0 ≤ 0 := Nat.le_of_ble_eq_true rfl
  unfold f_X8_removeNode at h
  change sw_G p l e (sw_R 0 0 0 0) s m args below meth c Q 4 A D cT σ 0 0 0 [(0, P_ (some p0)), (1, I_ q1), (2, I_ q2)] []
  refine g_aload_n (pc := 0) K 0 rfl rfl dX8_removeNode_0 ?_
  replace h := Option.bind_eq_some_iff.mp h
  obtain ⟨r1, e2, h⟩ := h
  refine g_getR (pc := 1) K cl_8 hin_X8 (k := 7) (by decide) tb_525 rfl e2 dX8_removeNode_1 ?_
  refine g_iload_n (pc := 4) K 1 rfl rfl dX8_removeNode_4 ?_
  refine g_dup2 (pc := 5) K rfl rfl dX8_removeNode_5 ?_
  replace h := Option.bind_eq_some_iff.mp h
  obtain ⟨a3, rfl, h⟩ := h
  replace h := Option.bind_eq_some_iff.mp h
  obtain ⟨x5, e4, h⟩ := h
  refine g_iald (pc := 6) K e4 dX8_removeNode_6 ?_
  refine g_iconst (pc := 7) (v := 1) K dX8_removeNode_7 (by decide) ?_
  refine g_isub (pc := 8) K dX8_removeNode_8 ?_
  replace h := Option.bind_eq_some_iff.mp h
  obtain ⟨σ7, e6, h⟩ := h
  refine g_iast (pc := 9) K e6 dX8_removeNode_9 ?_
  refine g_iload_n (pc := 10) K 2 rfl rfl dX8_removeNode_10 ?_
  refine g_istore_n (pc := 11) K [(3, I_ q2), (0, P_ (some p0)), (1, I_ q1), (2, I_ q2)] rfl (by decide) rfl dX8_removeNode_11 ?_
  refine g_sub K [1, 2, 0] rfl ?_
  exact wl_X8_removeNode_12 K hT  1000 _ _ _ _ _ _ h (by omega) (by omega)

def b_X8_splitUp_155 (rec4 : Nat → Int32 → Int32 → sw_S → Option sw_S) (v0 : Nat) (v2 : Int32) (v6 : Int32) (σ : sw_S) : Option sw_S :=
  rec4 v0 ((v2 + 1)) v6 σ
set_option maxHeartbeats 4000000 in
set_option maxRecDepth 100000 in
theorem w_X8_splitUp_155 {p : Program} {l : Launch} {e : Env} {s : State} {m : MethodId} {args : Array Value} {below : List Frame} {meth : Method} {c : Code} {Q : State → Prop} {A : Nat → Prop} {D : va_G} {cT : Nat → ClassId} {σ' : sw_S}  (K : sw_C p s m args c cX8_splitUp 7 RX8 A D cT) (hT : sw_Tv cX8_splitUp p l e (sw_R 1 0 0 24) s m args below meth c Q 7 A D cT 0 0 σ') {rec4 : Nat → Int32 → Int32 → sw_S → Option sw_S} (hrec4 : ∀ (v0 : Nat) (v2 : Int32) (v3 : Int32) (σ : sw_S) (ce sl : Nat), rec4 v0 v2 v3 σ = some σ' → ce + (0) ≤ 0 → sl + (0) ≤ 0 → sw_G p l e (sw_R 1 0 0 24) s m args below meth c Q 7 A D cT σ ce sl 4 [(0, P_ (some v0)), (2, I_ v2), (3, I_ v3)] []) (v0 : Nat) (v2 : Int32) (v6 : Int32) (σ : sw_S)  (ce sl : Nat) (h : b_X8_splitUp_155 rec4 v0 v2 v6 σ = some σ') (hce : ce + (0) ≤ 0) (hsl : sl + (0) ≤ 0) : sw_G p l e (sw_R 1 0 0 24) s m args below meth c Q 7 A D cT σ ce sl 155 [(0, P_ (some v0)), (2, I_ v2), (6, I_ v6)] [] := by
  unfold b_X8_splitUp_155 at h
  refine g_iinc (pc := 155) K 1 (v2 + 1) [(2, I_ ((v2 + 1))), (0, P_ (some v0)), (6, I_ v6)] rfl rfl (by decide) rfl dX8_splitUp_155 ?_
  refine g_iload (pc := 158) K 2 rfl dX8_splitUp_158 ?_
  refine g_istore_n (pc := 160) K [(3, I_ v6), (2, I_ ((v2 + 1))), (0, P_ (some v0)), (6, I_ v6)] rfl (by decide) rfl dX8_splitUp_160 ?_
  refine g_goto (pc := 161) (tgt := 4) K dX8_splitUp_161 (by decide) ?_
  refine g_sub K [2, 1, 0] rfl ?_
  exact hrec4 _ _ _ _ _ _ h (by omega) (by omega)
def b_X8_splitUp_66 (rec4 : Nat → Int32 → Int32 → sw_S → Option sw_S) (v0 : Nat) (v2 : Int32) (v3 : Int32) (v4 : Int32) (v5 : Int32) (t0 : Int32) (σ : sw_S) : Option sw_S :=
  (sw_gR 8 v0 6 σ).bind fun r1 =>
  r1.bind fun a3 =>
  (sw_as 0 a3 ((((64 * v2)) + v3)) v4 σ).bind fun σ5 =>
  (sw_gI 8 v0 0 σ5).bind fun x6 =>
  (sw_ob 8 v0 σ5).bind fun f8 =>
  (f_X8_insertNode v0 v2 ((v3 + 1)) ((((x6 + 1)) - v4)) σ5).bind fun σ11 =>
  (if v5 = 0 then
  (sw_gR 8 v0 6 σ11).bind fun r13 =>
  r13.bind fun a15 =>
  (sw_al 0 a15 ((((64 * ((v2 + 1)))) + t0)) σ11).bind fun x17 =>
  (sw_as 0 a15 ((((64 * ((v2 + 1)))) + t0)) ((x17 + 1)) σ11).bind fun σ19 =>
  b_X8_splitUp_155 rec4 v0 v2 t0 σ19
  else
  (sw_gI 8 v0 5 σ11).bind fun x20 =>
  (sw_pt 8 v0 5 (.int ((x20 + 1))) σ11).bind fun σ22 =>
  (sw_gR 8 v0 7 σ22).bind fun r24 =>
  r24.bind fun a26 =>
  (sw_as 0 a26 ((v2 + 1)) 1 σ22).bind fun σ28 =>
  (sw_gR 8 v0 6 σ28).bind fun r29 =>
  r29.bind fun a31 =>
  (sw_as 0 a31 ((64 * ((v2 + 1)))) 2 σ28).bind fun σ33 =>
  b_X8_splitUp_155 rec4 v0 v2 t0 σ33)
set_option maxHeartbeats 4000000 in
set_option maxRecDepth 100000 in
theorem w_X8_splitUp_66 {p : Program} {l : Launch} {e : Env} {s : State} {m : MethodId} {args : Array Value} {below : List Frame} {meth : Method} {c : Code} {Q : State → Prop} {A : Nat → Prop} {D : va_G} {cT : Nat → ClassId} {σ' : sw_S}  (K : sw_C p s m args c cX8_splitUp 7 RX8 A D cT) (hT : sw_Tv cX8_splitUp p l e (sw_R 1 0 0 24) s m args below meth c Q 7 A D cT 0 0 σ') {rec4 : Nat → Int32 → Int32 → sw_S → Option sw_S} (hrec4 : ∀ (v0 : Nat) (v2 : Int32) (v3 : Int32) (σ : sw_S) (ce sl : Nat), rec4 v0 v2 v3 σ = some σ' → ce + (0) ≤ 0 → sl + (0) ≤ 0 → sw_G p l e (sw_R 1 0 0 24) s m args below meth c Q 7 A D cT σ ce sl 4 [(0, P_ (some v0)), (2, I_ v2), (3, I_ v3)] []) (v0 : Nat) (v2 : Int32) (v3 : Int32) (v4 : Int32) (v5 : Int32) (t0 : Int32) (σ : sw_S)  (ce sl : Nat) (h : b_X8_splitUp_66 rec4 v0 v2 v3 v4 v5 t0 σ = some σ') (hce : ce + (0) ≤ 0) (hsl : sl + (0) ≤ 0) : sw_G p l e (sw_R 1 0 0 24) s m args below meth c Q 7 A D cT σ ce sl 66 [(0, P_ (some v0)), (2, I_ v2), (3, I_ v3), (4, I_ v4), (5, I_ v5)] [I_ t0] := by
  unfold b_X8_splitUp_66 at h
  refine g_istore (pc := 66) K [(6, I_ t0), (0, P_ (some v0)), (2, I_ v2), (3, I_ v3), (4, I_ v4), (5, I_ v5)] (by decide) rfl dX8_splitUp_66 ?_
  refine g_aload_n (pc := 68) K 1 rfl rfl dX8_splitUp_68 ?_
  replace h := Option.bind_eq_some_iff.mp h
  obtain ⟨r1, e2, h⟩ := h
  refine g_getR (pc := 69) K cl_8 hin_X8 (k := 6) (by decide) tb_524 rfl e2 dX8_splitUp_69 ?_
  refine g_bipush (pc := 72) (v := 64) K dX8_splitUp_72 (by decide) ?_
  refine g_iload_n (pc := 74) K 2 rfl rfl dX8_splitUp_74 ?_
  refine g_imul (pc := 75) K dX8_splitUp_75 ?_
  refine g_iload_n (pc := 76) K 3 rfl rfl dX8_splitUp_76 ?_
  refine g_iadd (pc := 77) K dX8_splitUp_77 ?_
  refine g_iload (pc := 78) K 4 rfl dX8_splitUp_78 ?_
  replace h := Option.bind_eq_some_iff.mp h
  obtain ⟨a3, rfl, h⟩ := h
  replace h := Option.bind_eq_some_iff.mp h
  obtain ⟨σ5, e4, h⟩ := h
  refine g_iast (pc := 80) K e4 dX8_splitUp_80 ?_
  refine g_aload_n (pc := 81) K 1 rfl rfl dX8_splitUp_81 ?_
  refine g_iload_n (pc := 82) K 2 rfl rfl dX8_splitUp_82 ?_
  refine g_iload_n (pc := 83) K 3 rfl rfl dX8_splitUp_83 ?_
  refine g_iconst (pc := 84) (v := 1) K dX8_splitUp_84 (by decide) ?_
  refine g_iadd (pc := 85) K dX8_splitUp_85 ?_
  refine g_aload_n (pc := 86) K 1 rfl rfl dX8_splitUp_86 ?_
  replace h := Option.bind_eq_some_iff.mp h
  obtain ⟨x6, e7, h⟩ := h
  refine g_getI (pc := 87) K cl_8 hin_X8 (k := 0) (by decide) tb_518 rfl e7 dX8_splitUp_87 ?_
  refine g_iconst (pc := 90) (v := 1) K dX8_splitUp_90 (by decide) ?_
  refine g_iadd (pc := 91) K dX8_splitUp_91 ?_
  refine g_iload (pc := 92) K 4 rfl dX8_splitUp_92 ?_
  refine g_isub (pc := 94) K dX8_splitUp_94 ?_
  replace h := Option.bind_eq_some_iff.mp h
  obtain ⟨f8, e9, h⟩ := h
  replace h := Option.bind_eq_some_iff.mp h
  obtain ⟨σ11, e10, h⟩ := h
  refine g_callV (pc := 95) (st := []) K [I_ v2, I_ ((v3 + 1)), I_ ((((x6 + 1)) - v4))] (c_X8_insertNode _ _ _ _ _ _ _ _ e10) e9 cl_8 rfl tb_639 tb_636 tb_7 tb_638 sl_32 hd_X8_insertNode ⟨Nat.le_of_ble_eq_true rfl, Nat.le_of_ble_eq_true rfl⟩ rfl (sw_rm (Nat.le_of_ble_eq_true rfl)) ⟨by show _ ≤ 0; omega, by show _ ≤ 0; omega⟩ dX8_splitUp_95 ?_
  refine g_iload (pc := 98) K 5 rfl dX8_splitUp_98 ?_
  refine g_if_eq (pc := 100) K 137 dX8_splitUp_100 (by decide) (fun c12 => ?_) (fun c12 => ?_)
  · replace h := (if_pos c12).symm.trans h
    refine g_aload_n (pc := 137) K 1 rfl rfl dX8_splitUp_137 ?_
    replace h := Option.bind_eq_some_iff.mp h
    obtain ⟨r13, e14, h⟩ := h
    refine g_getR (pc := 138) K cl_8 hin_X8 (k := 6) (by decide) tb_524 rfl e14 dX8_splitUp_138 ?_
    refine g_bipush (pc := 141) (v := 64) K dX8_splitUp_141 (by decide) ?_
    refine g_iload_n (pc := 143) K 2 rfl rfl dX8_splitUp_143 ?_
    refine g_iconst (pc := 144) (v := 1) K dX8_splitUp_144 (by decide) ?_
    refine g_iadd (pc := 145) K dX8_splitUp_145 ?_
    refine g_imul (pc := 146) K dX8_splitUp_146 ?_
    refine g_iload (pc := 147) K 0 rfl dX8_splitUp_147 ?_
    refine g_iadd (pc := 149) K dX8_splitUp_149 ?_
    refine g_dup2 (pc := 150) K rfl rfl dX8_splitUp_150 ?_
    replace h := Option.bind_eq_some_iff.mp h
    obtain ⟨a15, rfl, h⟩ := h
    replace h := Option.bind_eq_some_iff.mp h
    obtain ⟨x17, e16, h⟩ := h
    refine g_iald (pc := 151) K e16 dX8_splitUp_151 ?_
    refine g_iconst (pc := 152) (v := 1) K dX8_splitUp_152 (by decide) ?_
    refine g_iadd (pc := 153) K dX8_splitUp_153 ?_
    replace h := Option.bind_eq_some_iff.mp h
    obtain ⟨σ19, e18, h⟩ := h
    refine g_iast (pc := 154) K e18 dX8_splitUp_154 ?_
    refine g_sub K [1, 2, 0] rfl ?_
    exact w_X8_splitUp_155 K hT hrec4  _ _ _ _ _ _ h (by omega) (by omega)
  · replace h := (if_neg c12).symm.trans h
    refine g_aload_n (pc := 103) K 1 rfl rfl dX8_splitUp_103 ?_
    refine g_dup (pc := 104) K rfl dX8_splitUp_104 ?_
    replace h := Option.bind_eq_some_iff.mp h
    obtain ⟨x20, e21, h⟩ := h
    refine g_getI (pc := 105) K cl_8 hin_X8 (k := 5) (by decide) tb_523 rfl e21 dX8_splitUp_105 ?_
    refine g_iconst (pc := 108) (v := 1) K dX8_splitUp_108 (by decide) ?_
    refine g_iadd (pc := 109) K dX8_splitUp_109 ?_
    replace h := Option.bind_eq_some_iff.mp h
    obtain ⟨σ22, e23, h⟩ := h
    refine g_put (pc := 110) K cl_8 hin_X8 (k := 5) (by decide) tb_523 rfl tyX8 tyX8_ok nmX8 (Or.inl rfl) rfl rfl e23 dX8_splitUp_110 ?_
    refine g_aload_n (pc := 113) K 1 rfl rfl dX8_splitUp_113 ?_
    replace h := Option.bind_eq_some_iff.mp h
    obtain ⟨r24, e25, h⟩ := h
    refine g_getR (pc := 114) K cl_8 hin_X8 (k := 7) (by decide) tb_525 rfl e25 dX8_splitUp_114 ?_
    refine g_iload_n (pc := 117) K 2 rfl rfl dX8_splitUp_117 ?_
    refine g_iconst (pc := 118) (v := 1) K dX8_splitUp_118 (by decide) ?_
    refine g_iadd (pc := 119) K dX8_splitUp_119 ?_
    refine g_iconst (pc := 120) (v := 1) K dX8_splitUp_120 (by decide) ?_
    replace h := Option.bind_eq_some_iff.mp h
    obtain ⟨a26, rfl, h⟩ := h
    replace h := Option.bind_eq_some_iff.mp h
    obtain ⟨σ28, e27, h⟩ := h
    refine g_iast (pc := 121) K e27 dX8_splitUp_121 ?_
    refine g_aload_n (pc := 122) K 1 rfl rfl dX8_splitUp_122 ?_
    replace h := Option.bind_eq_some_iff.mp h
    obtain ⟨r29, e30, h⟩ := h
    refine g_getR (pc := 123) K cl_8 hin_X8 (k := 6) (by decide) tb_524 rfl e30 dX8_splitUp_123 ?_
    refine g_bipush (pc := 126) (v := 64) K dX8_splitUp_126 (by decide) ?_
    refine g_iload_n (pc := 128) K 2 rfl rfl dX8_splitUp_128 ?_
    refine g_iconst (pc := 129) (v := 1) K dX8_splitUp_129 (by decide) ?_
    refine g_iadd (pc := 130) K dX8_splitUp_130 ?_
    refine g_imul (pc := 131) K dX8_splitUp_131 ?_
    refine g_iconst (pc := 132) (v := 2) K dX8_splitUp_132 (by decide) ?_
    replace h := Option.bind_eq_some_iff.mp h
    obtain ⟨a31, rfl, h⟩ := h
    replace h := Option.bind_eq_some_iff.mp h
    obtain ⟨σ33, e32, h⟩ := h
    refine g_iast (pc := 133) K e32 dX8_splitUp_133 ?_
    refine g_goto (pc := 134) (tgt := 155) K dX8_splitUp_134 (by decide) ?_
    refine g_sub K [1, 2, 0] rfl ?_
    exact w_X8_splitUp_155 K hT hrec4  _ _ _ _ _ _ h (by omega) (by omega)
def b_X8_splitUp_47 (rec4 : Nat → Int32 → Int32 → sw_S → Option sw_S) (v0 : Nat) (v2 : Int32) (v3 : Int32) (v4 : Int32) (t0 : Int32) (σ : sw_S) : Option sw_S :=
  (if t0 = 0 then
  (sw_ob 8 v0 σ).bind fun f2 =>
  (f_X8_holder v0 ((v2 + 1)) v3 σ).bind fun x5 =>
  b_X8_splitUp_66 rec4 v0 v2 v3 v4 t0 x5 σ
  else
  b_X8_splitUp_66 rec4 v0 v2 v3 v4 t0 0 σ)
set_option maxHeartbeats 4000000 in
set_option maxRecDepth 100000 in
theorem w_X8_splitUp_47 {p : Program} {l : Launch} {e : Env} {s : State} {m : MethodId} {args : Array Value} {below : List Frame} {meth : Method} {c : Code} {Q : State → Prop} {A : Nat → Prop} {D : va_G} {cT : Nat → ClassId} {σ' : sw_S}  (K : sw_C p s m args c cX8_splitUp 7 RX8 A D cT) (hT : sw_Tv cX8_splitUp p l e (sw_R 1 0 0 24) s m args below meth c Q 7 A D cT 0 0 σ') {rec4 : Nat → Int32 → Int32 → sw_S → Option sw_S} (hrec4 : ∀ (v0 : Nat) (v2 : Int32) (v3 : Int32) (σ : sw_S) (ce sl : Nat), rec4 v0 v2 v3 σ = some σ' → ce + (0) ≤ 0 → sl + (0) ≤ 0 → sw_G p l e (sw_R 1 0 0 24) s m args below meth c Q 7 A D cT σ ce sl 4 [(0, P_ (some v0)), (2, I_ v2), (3, I_ v3)] []) (v0 : Nat) (v2 : Int32) (v3 : Int32) (v4 : Int32) (t0 : Int32) (σ : sw_S)  (ce sl : Nat) (h : b_X8_splitUp_47 rec4 v0 v2 v3 v4 t0 σ = some σ') (hce : ce + (0) ≤ 0) (hsl : sl + (0) ≤ 0) : sw_G p l e (sw_R 1 0 0 24) s m args below meth c Q 7 A D cT σ ce sl 47 [(0, P_ (some v0)), (2, I_ v2), (3, I_ v3), (4, I_ v4)] [I_ t0] := by
  unfold b_X8_splitUp_47 at h
  refine g_istore (pc := 47) K [(5, I_ t0), (0, P_ (some v0)), (2, I_ v2), (3, I_ v3), (4, I_ v4)] (by decide) rfl dX8_splitUp_47 ?_
  refine g_iload (pc := 49) K 0 rfl dX8_splitUp_49 ?_
  refine g_if_eq (pc := 51) K 58 dX8_splitUp_51 (by decide) (fun c1 => ?_) (fun c1 => ?_)
  · replace h := (if_pos c1).symm.trans h
    refine g_aload_n (pc := 58) K 1 rfl rfl dX8_splitUp_58 ?_
    refine g_iload_n (pc := 59) K 2 rfl rfl dX8_splitUp_59 ?_
    refine g_iconst (pc := 60) (v := 1) K dX8_splitUp_60 (by decide) ?_
    refine g_iadd (pc := 61) K dX8_splitUp_61 ?_
    refine g_iload_n (pc := 62) K 3 rfl rfl dX8_splitUp_62 ?_
    replace h := Option.bind_eq_some_iff.mp h
    obtain ⟨f2, e3, h⟩ := h
    replace h := Option.bind_eq_some_iff.mp h
    obtain ⟨x5, e4, h⟩ := h
    refine g_callV (pc := 63) (st := []) K [I_ ((v2 + 1)), I_ v3] (c_X8_holder _ _ _ _ _ _ _ e4) e3 cl_8 rfl tb_631 tb_628 tb_7 tb_630 sl_30 hd_X8_holder ⟨Nat.le_of_ble_eq_true rfl, Nat.le_of_ble_eq_true rfl⟩ rfl (sw_rm (Nat.le_of_ble_eq_true rfl)) ⟨by show _ ≤ 0; omega, by show _ ≤ 0; omega⟩ dX8_splitUp_63 ?_
    refine g_sub K [1, 2, 3, 4, 0] rfl ?_
    exact w_X8_splitUp_66 K hT hrec4  _ _ _ _ _ _ _ _ _ h (by omega) (by omega)
  · replace h := (if_neg c1).symm.trans h
    refine g_iconst (pc := 54) (v := 0) K dX8_splitUp_54 (by decide) ?_
    refine g_goto (pc := 55) (tgt := 66) K dX8_splitUp_55 (by decide) ?_
    refine g_sub K [1, 2, 3, 4, 0] rfl ?_
    exact w_X8_splitUp_66 K hT hrec4  _ _ _ _ _ _ _ _ _ h (by omega) (by omega)
def B_X8_splitUp_4 (rec4 : Nat → Int32 → Int32 → sw_S → Option sw_S) (v0 : Nat) (v2 : Int32) (v3 : Int32) (σ : sw_S) : Option sw_S :=
  (sw_gR 8 v0 6 σ).bind fun r1 =>
  r1.bind fun a3 =>
  (sw_al 0 a3 ((((64 * v2)) + v3)) σ).bind fun x5 =>
  (sw_gI 8 v0 0 σ).bind fun x6 =>
  (if x5 ≤ x6 then
  some σ
  else
  (sw_gI 8 v0 0 σ).bind fun x9 =>
  (sw_gI 8 v0 5 σ).bind fun x11 =>
  (if v2 = ((x11 - 1)) then
  b_X8_splitUp_47 rec4 v0 v2 v3 ((((x9 + 2)) / 2)) 1 σ
  else
  b_X8_splitUp_47 rec4 v0 v2 v3 ((((x9 + 2)) / 2)) 0 σ))
set_option maxHeartbeats 4000000 in
set_option maxRecDepth 100000 in
theorem wB_X8_splitUp_4 {p : Program} {l : Launch} {e : Env} {s : State} {m : MethodId} {args : Array Value} {below : List Frame} {meth : Method} {c : Code} {Q : State → Prop} {A : Nat → Prop} {D : va_G} {cT : Nat → ClassId} {σ' : sw_S}  (K : sw_C p s m args c cX8_splitUp 7 RX8 A D cT) (hT : sw_Tv cX8_splitUp p l e (sw_R 1 0 0 24) s m args below meth c Q 7 A D cT 0 0 σ') {rec4 : Nat → Int32 → Int32 → sw_S → Option sw_S} (hrec4 : ∀ (v0 : Nat) (v2 : Int32) (v3 : Int32) (σ : sw_S) (ce sl : Nat), rec4 v0 v2 v3 σ = some σ' → ce + (0) ≤ 0 → sl + (0) ≤ 0 → sw_G p l e (sw_R 1 0 0 24) s m args below meth c Q 7 A D cT σ ce sl 4 [(0, P_ (some v0)), (2, I_ v2), (3, I_ v3)] []) (v0 : Nat) (v2 : Int32) (v3 : Int32) (σ : sw_S)  (ce sl : Nat) (h : B_X8_splitUp_4 rec4 v0 v2 v3 σ = some σ') (hce : ce + (0) ≤ 0) (hsl : sl + (0) ≤ 0) : sw_G p l e (sw_R 1 0 0 24) s m args below meth c Q 7 A D cT σ ce sl 4 [(0, P_ (some v0)), (2, I_ v2), (3, I_ v3)] [] := by
  unfold B_X8_splitUp_4 at h
  refine g_aload_n (pc := 4) K 0 rfl rfl dX8_splitUp_4 ?_
  replace h := Option.bind_eq_some_iff.mp h
  obtain ⟨r1, e2, h⟩ := h
  refine g_getR (pc := 5) K cl_8 hin_X8 (k := 6) (by decide) tb_524 rfl e2 dX8_splitUp_5 ?_
  refine g_bipush (pc := 8) (v := 64) K dX8_splitUp_8 (by decide) ?_
  refine g_iload_n (pc := 10) K 1 rfl rfl dX8_splitUp_10 ?_
  refine g_imul (pc := 11) K dX8_splitUp_11 ?_
  refine g_iload_n (pc := 12) K 2 rfl rfl dX8_splitUp_12 ?_
  refine g_iadd (pc := 13) K dX8_splitUp_13 ?_
  replace h := Option.bind_eq_some_iff.mp h
  obtain ⟨a3, rfl, h⟩ := h
  replace h := Option.bind_eq_some_iff.mp h
  obtain ⟨x5, e4, h⟩ := h
  refine g_iald (pc := 14) K e4 dX8_splitUp_14 ?_
  refine g_aload_n (pc := 15) K 0 rfl rfl dX8_splitUp_15 ?_
  replace h := Option.bind_eq_some_iff.mp h
  obtain ⟨x6, e7, h⟩ := h
  refine g_getI (pc := 16) K cl_8 hin_X8 (k := 0) (by decide) tb_518 rfl e7 dX8_splitUp_16 ?_
  refine g_icmp_le (pc := 19) K 164 dX8_splitUp_19 (by decide) (fun c8 => ?_) (fun c8 => ?_)
  · replace h := (if_pos c8).symm.trans h
    cases h
    exact hT _ _ 164 _ (by omega) (by omega) dX8_splitUp_164
  · replace h := (if_neg c8).symm.trans h
    refine g_aload_n (pc := 22) K 0 rfl rfl dX8_splitUp_22 ?_
    replace h := Option.bind_eq_some_iff.mp h
    obtain ⟨x9, e10, h⟩ := h
    refine g_getI (pc := 23) K cl_8 hin_X8 (k := 0) (by decide) tb_518 rfl e10 dX8_splitUp_23 ?_
    refine g_iconst (pc := 26) (v := 2) K dX8_splitUp_26 (by decide) ?_
    refine g_iadd (pc := 27) K dX8_splitUp_27 ?_
    refine g_iconst (pc := 28) (v := 2) K dX8_splitUp_28 (by decide) ?_
    refine g_idiv (pc := 29) K dX8_splitUp_29 (by decide) ?_
    refine g_istore (pc := 30) K [(4, I_ ((((x9 + 2)) / 2))), (0, P_ (some v0)), (2, I_ v2), (3, I_ v3)] (by decide) rfl dX8_splitUp_30 ?_
    refine g_iload_n (pc := 32) K 2 rfl rfl dX8_splitUp_32 ?_
    refine g_aload_n (pc := 33) K 1 rfl rfl dX8_splitUp_33 ?_
    replace h := Option.bind_eq_some_iff.mp h
    obtain ⟨x11, e12, h⟩ := h
    refine g_getI (pc := 34) K cl_8 hin_X8 (k := 5) (by decide) tb_523 rfl e12 dX8_splitUp_34 ?_
    refine g_iconst (pc := 37) (v := 1) K dX8_splitUp_37 (by decide) ?_
    refine g_isub (pc := 38) K dX8_splitUp_38 ?_
    refine g_icmp_ne (pc := 39) K 46 dX8_splitUp_39 (by decide) (fun c13 => ?_) (fun c13 => ?_)
    · replace h := (if_pos c13).symm.trans h
      refine g_iconst (pc := 42) (v := 1) K dX8_splitUp_42 (by decide) ?_
      refine g_goto (pc := 43) (tgt := 47) K dX8_splitUp_43 (by decide) ?_
      refine g_sub K [1, 2, 3, 0] rfl ?_
      exact w_X8_splitUp_47 K hT hrec4  _ _ _ _ _ _ _ _ h (by omega) (by omega)
    · replace h := (if_neg c13).symm.trans h
      refine g_iconst (pc := 46) (v := 0) K dX8_splitUp_46 (by decide) ?_
      refine g_sub K [1, 2, 3, 0] rfl ?_
      exact w_X8_splitUp_47 K hT hrec4  _ _ _ _ _ _ _ _ h (by omega) (by omega)
def b_X8_splitUp_4  : Nat → Nat → Int32 → Int32 → sw_S → Option sw_S
  | 0 => fun _ _ _ _ => none
  | n + 1 => B_X8_splitUp_4 (b_X8_splitUp_4  n)
theorem wl_X8_splitUp_4 {p : Program} {l : Launch} {e : Env} {s : State} {m : MethodId} {args : Array Value} {below : List Frame} {meth : Method} {c : Code} {Q : State → Prop} {A : Nat → Prop} {D : va_G} {cT : Nat → ClassId} {σ' : sw_S}  (K : sw_C p s m args c cX8_splitUp 7 RX8 A D cT) (hT : sw_Tv cX8_splitUp p l e (sw_R 1 0 0 24) s m args below meth c Q 7 A D cT 0 0 σ') : ∀ (n : Nat) (v0 : Nat) (v2 : Int32) (v3 : Int32) (σ : sw_S) (ce sl : Nat), b_X8_splitUp_4  n v0 v2 v3 σ = some σ' → ce + (0) ≤ 0 → sl + (0) ≤ 0 → sw_G p l e (sw_R 1 0 0 24) s m args below meth c Q 7 A D cT σ ce sl 4 [(0, P_ (some v0)), (2, I_ v2), (3, I_ v3)] [] := by
  intro n
  induction n with
  | zero =>
    intro v0 v2 v3 σ ce sl h
    exact absurd (show none = some σ' from h) (by simp)
  | succ n ih =>
    intro v0 v2 v3 σ ce sl h hce hsl
    exact wB_X8_splitUp_4 K hT (fun _ _ _ _ _ _ h h1 h2 => ih _ _ _ _ _ _ h h1 h2) _ _ _ _ _ _ h hce hsl
def f_X8_splitUp (p0 : Nat) (q1 : Int32) (σ : sw_S) : Option sw_S :=
  b_X8_splitUp_4 1000 p0 0 q1 σ
set_option maxHeartbeats 4000000 in
set_option maxRecDepth 100000 in
theorem c_X8_splitUp  (l : Launch) (D : va_G) (cT : Nat → ClassId) (p0 : Nat) (q1 : Int32) (σ : sw_S) {σ' : sw_S} (h : f_X8_splitUp p0 q1 σ = some σ') : sw_M l D cT yX8_splitUp cX8_splitUp 7 none 1 24 0 0 σ [P_ (some p0), I_ q1] none σ' := by
  refine sw_met_v (by decide) (Nat.le_of_ble_eq_true rfl) (fun p e s m args below meth c A Q K hnm hT => ?_)
  have hce : 0 + 0 ≤ 0 := Nat.le_of_ble_eq_true rfl
  have hsl : 0 + 0 ≤ 0 := Nat.le_of_ble_eq_true rfl
  unfold f_X8_splitUp at h
  change sw_G p l e (sw_R 1 0 0 24) s m args below meth c Q 7 A D cT σ 0 0 0 [(0, P_ (some p0)), (1, I_ q1)] []
  refine g_iconst (pc := 0) (v := 0) K dX8_splitUp_0 (by decide) ?_
  refine g_istore_n (pc := 1) K [(2, I_ 0), (0, P_ (some p0)), (1, I_ q1)] rfl (by decide) rfl dX8_splitUp_1 ?_
  refine g_iload_n (pc := 2) K 2 rfl rfl dX8_splitUp_2 ?_
  refine g_istore_n (pc := 3) K [(3, I_ q1), (2, I_ 0), (0, P_ (some p0)), (1, I_ q1)] rfl (by decide) rfl dX8_splitUp_3 ?_
  refine g_sub K [2, 1, 0] rfl ?_
  exact wl_X8_splitUp_4 K hT  1000 _ _ _ _ _ _ h (by omega) (by omega)
