def b_X0_copyRows_40 (rec7 : Nat → Nat → Nat → Int32 → sw_S → Option sw_S) (v0 : Nat) (v1 : Nat) (v2 : Nat) (v3 : Int32) (σ : sw_S) : Option sw_S :=
  rec7 v0 v1 v2 ((v3 + 1)) σ
set_option maxHeartbeats 4000000 in
set_option maxRecDepth 100000 in
theorem w_X0_copyRows_40 {p : Program} {l : Launch} {e : Env} {s : State} {m : MethodId} {args : Array Value} {below : List Frame} {meth : Method} {c : Code} {Q : State → Prop} {A : Nat → Prop} {D : va_G} {cT : Nat → ClassId} {σ' : sw_S}  (K : sw_C p s m args c cX0_copyRows 4 RX0 A D cT) (hT : sw_Tv cX0_copyRows p l e (sw_R 2 0 0 43) s m args below meth c Q 4 A D cT 0 0 σ') {rec7 : Nat → Nat → Nat → Int32 → sw_S → Option sw_S} (hrec7 : ∀ (v0 : Nat) (v1 : Nat) (v2 : Nat) (v3 : Int32) (σ : sw_S) (ce sl : Nat), rec7 v0 v1 v2 v3 σ = some σ' → ce + (0) ≤ 0 → sl + (0) ≤ 0 → sw_G p l e (sw_R 2 0 0 43) s m args below meth c Q 4 A D cT σ ce sl 7 [(0, P_ (some v0)), (1, P_ (some v1)), (2, P_ (some v2)), (3, I_ v3)] []) (v0 : Nat) (v1 : Nat) (v2 : Nat) (v3 : Int32) (σ : sw_S)  (ce sl : Nat) (h : b_X0_copyRows_40 rec7 v0 v1 v2 v3 σ = some σ') (hce : ce + (0) ≤ 0) (hsl : sl + (0) ≤ 0) : sw_G p l e (sw_R 2 0 0 43) s m args below meth c Q 4 A D cT σ ce sl 40 [(0, P_ (some v0)), (1, P_ (some v1)), (2, P_ (some v2)), (3, I_ v3)] [] := by
  unfold b_X0_copyRows_40 at h
  refine g_iinc (pc := 40) K 3 (v3 + 1) [(3, I_ ((v3 + 1))), (0, P_ (some v0)), (1, P_ (some v1)), (2, P_ (some v2))] rfl rfl (by decide) rfl dX0_copyRows_40 ?_
  refine g_goto (pc := 43) (tgt := 7) K dX0_copyRows_43 (by decide) ?_
  refine g_sub K [1, 2, 3, 0] rfl ?_
  exact hrec7 _ _ _ _ _ _ _ h (by omega) (by omega)
def B_X0_copyRows_7 (rec7 : Nat → Nat → Nat → Int32 → sw_S → Option sw_S) (v0 : Nat) (v1 : Nat) (v2 : Nat) (v3 : Int32) (σ : sw_S) : Option sw_S :=
  (sw_gI 0 v0 8 σ).bind fun x1 =>
  (if x1 ≤ v3 then
  some σ
  else
  (sw_ob 0 v0 σ).bind fun f4 =>
  (f_X0_isRow v0 v3 v1 σ).bind fun x7 =>
  (if x7 = 0 then
  b_X0_copyRows_40 rec7 v0 v1 v2 v3 σ
  else
  (sw_gR 0 v0 2 σ).bind fun r9 =>
  r9.bind fun a11 =>
  (sw_al 0 a11 v3 σ).bind fun x13 =>
  (sw_gR 0 v0 3 σ).bind fun r14 =>
  r14.bind fun a16 =>
  (sw_al 0 a16 v3 σ).bind fun x18 =>
  (sw_ob 5 v2 σ).bind fun f19 =>
  (f_X5_append v2 x13 x18 σ).bind fun σ22 =>
  b_X0_copyRows_40 rec7 v0 v1 v2 v3 σ22))
set_option maxHeartbeats 4000000 in
set_option maxRecDepth 100000 in
theorem wB_X0_copyRows_7 {p : Program} {l : Launch} {e : Env} {s : State} {m : MethodId} {args : Array Value} {below : List Frame} {meth : Method} {c : Code} {Q : State → Prop} {A : Nat → Prop} {D : va_G} {cT : Nat → ClassId} {σ' : sw_S}  (K : sw_C p s m args c cX0_copyRows 4 RX0 A D cT) (hT : sw_Tv cX0_copyRows p l e (sw_R 2 0 0 43) s m args below meth c Q 4 A D cT 0 0 σ') {rec7 : Nat → Nat → Nat → Int32 → sw_S → Option sw_S} (hrec7 : ∀ (v0 : Nat) (v1 : Nat) (v2 : Nat) (v3 : Int32) (σ : sw_S) (ce sl : Nat), rec7 v0 v1 v2 v3 σ = some σ' → ce + (0) ≤ 0 → sl + (0) ≤ 0 → sw_G p l e (sw_R 2 0 0 43) s m args below meth c Q 4 A D cT σ ce sl 7 [(0, P_ (some v0)), (1, P_ (some v1)), (2, P_ (some v2)), (3, I_ v3)] []) (v0 : Nat) (v1 : Nat) (v2 : Nat) (v3 : Int32) (σ : sw_S)  (ce sl : Nat) (h : B_X0_copyRows_7 rec7 v0 v1 v2 v3 σ = some σ') (hce : ce + (0) ≤ 0) (hsl : sl + (0) ≤ 0) : sw_G p l e (sw_R 2 0 0 43) s m args below meth c Q 4 A D cT σ ce sl 7 [(0, P_ (some v0)), (1, P_ (some v1)), (2, P_ (some v2)), (3, I_ v3)] [] := by
  unfold B_X0_copyRows_7 at h
  refine g_iload_n (pc := 7) K 3 rfl rfl dX0_copyRows_7 ?_
  refine g_aload_n (pc := 8) K 0 rfl rfl dX0_copyRows_8 ?_
  replace h := Option.bind_eq_some_iff.mp h
  obtain ⟨x1, e2, h⟩ := h
  refine g_getI (pc := 9) K cl_0 hin_X0 (k := 8) (by decide) tb_134 rfl e2 dX0_copyRows_9 ?_
  refine g_icmp_ge (pc := 12) K 46 dX0_copyRows_12 (by decide) (fun c3 => ?_) (fun c3 => ?_)
  · replace h := (if_pos c3).symm.trans h
    cases h
    exact hT _ _ 46 _ (by omega) (by omega) dX0_copyRows_46
  · replace h := (if_neg c3).symm.trans h
    refine g_aload_n (pc := 15) K 0 rfl rfl dX0_copyRows_15 ?_
    refine g_iload_n (pc := 16) K 3 rfl rfl dX0_copyRows_16 ?_
    refine g_aload_n (pc := 17) K 1 rfl rfl dX0_copyRows_17 ?_
    replace h := Option.bind_eq_some_iff.mp h
    obtain ⟨f4, e5, h⟩ := h
    replace h := Option.bind_eq_some_iff.mp h
    obtain ⟨x7, e6, h⟩ := h
    refine g_callV (pc := 18) (st := []) K [I_ v3, P_ (some v1)] (c_X0_isRow _ _ _ _ _ _ _ e6) e5 cl_0 rfl tb_470 tb_467 tb_5 tb_469 sl_25 hd_X0_isRow ⟨Nat.le_of_ble_eq_true rfl, Nat.le_of_ble_eq_true rfl⟩ rfl (sw_rm (Nat.le_of_ble_eq_true rfl)) ⟨by show _ ≤ 0; omega, by show _ ≤ 0; omega⟩ dX0_copyRows_18 ?_
    refine g_if_eq (pc := 21) K 40 dX0_copyRows_21 (by decide) (fun c8 => ?_) (fun c8 => ?_)
    · replace h := (if_pos c8).symm.trans h
      refine g_sub K [0, 1, 2, 3] rfl ?_
      exact w_X0_copyRows_40 K hT hrec7  _ _ _ _ _ _ _ h (by omega) (by omega)
    · replace h := (if_neg c8).symm.trans h
      refine g_aload_n (pc := 24) K 2 rfl rfl dX0_copyRows_24 ?_
      refine g_aload_n (pc := 25) K 0 rfl rfl dX0_copyRows_25 ?_
      replace h := Option.bind_eq_some_iff.mp h
      obtain ⟨r9, e10, h⟩ := h
      refine g_getR (pc := 26) K cl_0 hin_X0 (k := 2) (by decide) tb_128 rfl e10 dX0_copyRows_26 ?_
      refine g_iload_n (pc := 29) K 3 rfl rfl dX0_copyRows_29 ?_
      replace h := Option.bind_eq_some_iff.mp h
      obtain ⟨a11, rfl, h⟩ := h
      replace h := Option.bind_eq_some_iff.mp h
      obtain ⟨x13, e12, h⟩ := h
      refine g_iald (pc := 30) K e12 dX0_copyRows_30 ?_
      refine g_aload_n (pc := 31) K 0 rfl rfl dX0_copyRows_31 ?_
      replace h := Option.bind_eq_some_iff.mp h
      obtain ⟨r14, e15, h⟩ := h
      refine g_getR (pc := 32) K cl_0 hin_X0 (k := 3) (by decide) tb_129 rfl e15 dX0_copyRows_32 ?_
      refine g_iload_n (pc := 35) K 3 rfl rfl dX0_copyRows_35 ?_
      replace h := Option.bind_eq_some_iff.mp h
      obtain ⟨a16, rfl, h⟩ := h
      replace h := Option.bind_eq_some_iff.mp h
      obtain ⟨x18, e17, h⟩ := h
      refine g_iald (pc := 36) K e17 dX0_copyRows_36 ?_
      replace h := Option.bind_eq_some_iff.mp h
      obtain ⟨f19, e20, h⟩ := h
      replace h := Option.bind_eq_some_iff.mp h
      obtain ⟨σ22, e21, h⟩ := h
      refine g_callV (pc := 37) (st := []) K [I_ x13, I_ x18] (c_X5_append _ _ _ _ _ _ _ e21) e20 cl_5 rfl tb_478 tb_475 tb_6 tb_476 tb_477 hd_X5_append ⟨Nat.le_of_ble_eq_true rfl, Nat.le_of_ble_eq_true rfl⟩ rfl (sw_rm (Nat.le_of_ble_eq_true rfl)) ⟨by show _ ≤ 0; omega, by show _ ≤ 0; omega⟩ dX0_copyRows_37 ?_
      refine g_sub K [0, 1, 2, 3] rfl ?_
      exact w_X0_copyRows_40 K hT hrec7  _ _ _ _ _ _ _ h (by omega) (by omega)
def b_X0_copyRows_7  : Nat → Nat → Nat → Nat → Int32 → sw_S → Option sw_S
  | 0 => fun _ _ _ _ _ => none
  | n + 1 => B_X0_copyRows_7 (b_X0_copyRows_7  n)
theorem wl_X0_copyRows_7 {p : Program} {l : Launch} {e : Env} {s : State} {m : MethodId} {args : Array Value} {below : List Frame} {meth : Method} {c : Code} {Q : State → Prop} {A : Nat → Prop} {D : va_G} {cT : Nat → ClassId} {σ' : sw_S}  (K : sw_C p s m args c cX0_copyRows 4 RX0 A D cT) (hT : sw_Tv cX0_copyRows p l e (sw_R 2 0 0 43) s m args below meth c Q 4 A D cT 0 0 σ') : ∀ (n : Nat) (v0 : Nat) (v1 : Nat) (v2 : Nat) (v3 : Int32) (σ : sw_S) (ce sl : Nat), b_X0_copyRows_7  n v0 v1 v2 v3 σ = some σ' → ce + (0) ≤ 0 → sl + (0) ≤ 0 → sw_G p l e (sw_R 2 0 0 43) s m args below meth c Q 4 A D cT σ ce sl 7 [(0, P_ (some v0)), (1, P_ (some v1)), (2, P_ (some v2)), (3, I_ v3)] [] := by
  intro n
  induction n with
  | zero =>
    intro v0 v1 v2 v3 σ ce sl h
    exact absurd (show none = some σ' from h) (by simp)
  | succ n ih =>
    intro v0 v1 v2 v3 σ ce sl h hce hsl
    exact wB_X0_copyRows_7 K hT (fun _ _ _ _ _ _ _ h h1 h2 => ih _ _ _ _ _ _ _ h h1 h2) _ _ _ _ _ _ _ h hce hsl
def f_X0_copyRows (p0 : Nat) (q1 : Nat) (q2 : Nat) (σ : sw_S) : Option sw_S :=
  (sw_pt 5 q2 2 (.int 0) σ).bind fun σ1 =>
  b_X0_copyRows_7 1000 p0 q1 q2 0 σ1
set_option maxHeartbeats 4000000 in
set_option maxRecDepth 100000 in
theorem c_X0_copyRows  (l : Launch) (D : va_G) (cT : Nat → ClassId) (p0 : Nat) (q1 : Nat) (q2 : Nat) (σ : sw_S) {σ' : sw_S} (h : f_X0_copyRows p0 q1 q2 σ = some σ') : sw_M l D cT yX0_copyRows cX0_copyRows 4 none 2 43 0 0 σ [P_ (some p0), P_ (some q1), P_ (some q2)] none σ' := by
  refine sw_met_v (by decide) (Nat.le_of_ble_eq_true rfl) (fun p e s m args below meth c A Q K hnm hT => ?_)
  have hce : 0 + 0 ≤ 0 := Nat.le_of_ble_eq_true rfl
  have hsl : 0 + 0 ≤ 0 := Nat.le_of_ble_eq_true rfl
  unfold f_X0_copyRows at h
  change sw_G p l e (sw_R 2 0 0 43) s m args below meth c Q 4 A D cT σ 0 0 0 [(0, P_ (some p0)), (1, P_ (some q1)), (2, P_ (some q2))] []
  refine g_aload_n (pc := 0) K 2 rfl rfl dX0_copyRows_0 ?_
  refine g_iconst (pc := 1) (v := 0) K dX0_copyRows_1 (by decide) ?_
  replace h := Option.bind_eq_some_iff.mp h
  obtain ⟨σ1, e2, h⟩ := h
  refine g_put (pc := 2) K cl_5 hin_X5 (k := 2) (by decide) tb_178 rfl tyX5 tyX5_ok nmX5 (Or.inl rfl) rfl rfl e2 dX0_copyRows_2 ?_
  refine g_iconst (pc := 5) (v := 0) K dX0_copyRows_5 (by decide) ?_
  refine g_istore_n (pc := 6) K [(3, I_ 0), (0, P_ (some p0)), (1, P_ (some q1)), (2, P_ (some q2))] rfl (by decide) rfl dX0_copyRows_6 ?_
  refine g_sub K [1, 2, 3, 0] rfl ?_
  exact wl_X0_copyRows_7 K hT  1000 _ _ _ _ _ _ _ h (by omega) (by omega)

def b_X0_total_64 (rec4 : Nat → Nat → Int32 → Int32 → sw_S → Option Int32) (v0 : Nat) (v1 : Nat) (v2 : Int32) (v3 : Int32) (σ : sw_S) : Option Int32 :=
  rec4 v0 v1 v2 ((v3 + 1)) σ
set_option maxHeartbeats 4000000 in
set_option maxRecDepth 100000 in
theorem w_X0_total_64 {p : Program} {l : Launch} {e : Env} {s : State} {m : MethodId} {args : Array Value} {below : List Frame} {meth : Method} {c : Code} {Q : State → Prop} {A : Nat → Prop} {D : va_G} {cT : Nat → ClassId} {σ : sw_S}  {r : Int32}  (K : sw_C p s m args c cX0_total 4 RX0 A D cT) (hT : sw_Ti cX0_total p l e (sw_R 2 0 0 43) s m args below meth c Q 4 A D cT 0 0 σ r) {rec4 : Nat → Nat → Int32 → Int32 → sw_S → Option Int32} (hrec4 : ∀ (v0 : Nat) (v1 : Nat) (v2 : Int32) (v3 : Int32) (ce sl : Nat), rec4 v0 v1 v2 v3 σ = some r → ce + (0) ≤ 0 → sl + (0) ≤ 0 → sw_G p l e (sw_R 2 0 0 43) s m args below meth c Q 4 A D cT σ ce sl 4 [(0, P_ (some v0)), (1, P_ (some v1)), (2, I_ v2), (3, I_ v3)] []) (v0 : Nat) (v1 : Nat) (v2 : Int32) (v3 : Int32) (ce sl : Nat) (h : b_X0_total_64 rec4 v0 v1 v2 v3 σ = some r) (hce : ce + (0) ≤ 0) (hsl : sl + (0) ≤ 0) : sw_G p l e (sw_R 2 0 0 43) s m args below meth c Q 4 A D cT σ ce sl 64 [(0, P_ (some v0)), (1, P_ (some v1)), (2, I_ v2), (3, I_ v3)] [] := by
  unfold b_X0_total_64 at h
  refine g_iinc (pc := 64) K 3 (v3 + 1) [(3, I_ ((v3 + 1))), (0, P_ (some v0)), (1, P_ (some v1)), (2, I_ v2)] rfl rfl (by decide) rfl dX0_total_64 ?_
  refine g_goto (pc := 67) (tgt := 4) K dX0_total_67 (by decide) ?_
  refine g_sub K [1, 2, 3, 0] rfl ?_
  exact hrec4 _ _ _ _ _ _ h (by omega) (by omega)
def B_X0_total_4 (rec4 : Nat → Nat → Int32 → Int32 → sw_S → Option Int32) (v0 : Nat) (v1 : Nat) (v2 : Int32) (v3 : Int32) (σ : sw_S) : Option Int32 :=
  (sw_gI 0 v0 8 σ).bind fun x1 =>
  (if x1 ≤ v3 then
  some v2
  else
  (sw_ob 0 v0 σ).bind fun f4 =>
  (f_X0_isRow v0 v3 v1 σ).bind fun x7 =>
  (if x7 = 0 then
  (sw_gR 0 v0 4 σ).bind fun r9 =>
  r9.bind fun a11 =>
  (sw_al 2 a11 v3 σ).bind fun x13 =>
  (if x13 = 0 then
  b_X0_total_64 rec4 v0 v1 v2 v3 σ
  else
  (sw_ob 0 v0 σ).bind fun f15 =>
  (f_X0_spanFrom v0 v3 σ).bind fun x18 =>
  (sw_ob 0 v0 σ).bind fun f19 =>
  (f_X0_spanEnd v0 ((v3 + 1)) σ).bind fun x22 =>
  (sw_ob 4 v1 σ).bind fun f23 =>
  (f_X4_holds v1 x18 x22 σ).bind fun x26 =>
  (if x26 = 0 then
  b_X0_total_64 rec4 v0 v1 v2 v3 σ
  else
  (sw_gR 0 v0 3 σ).bind fun r28 =>
  r28.bind fun a30 =>
  (sw_al 0 a30 v3 σ).bind fun x32 =>
  b_X0_total_64 rec4 v0 v1 ((v2 + x32)) v3 σ))
  else
  b_X0_total_64 rec4 v0 v1 ((v2 + 1)) v3 σ))
set_option maxHeartbeats 4000000 in
set_option maxRecDepth 100000 in
theorem wB_X0_total_4 {p : Program} {l : Launch} {e : Env} {s : State} {m : MethodId} {args : Array Value} {below : List Frame} {meth : Method} {c : Code} {Q : State → Prop} {A : Nat → Prop} {D : va_G} {cT : Nat → ClassId} {σ : sw_S}  {r : Int32}  (K : sw_C p s m args c cX0_total 4 RX0 A D cT) (hT : sw_Ti cX0_total p l e (sw_R 2 0 0 43) s m args below meth c Q 4 A D cT 0 0 σ r) {rec4 : Nat → Nat → Int32 → Int32 → sw_S → Option Int32} (hrec4 : ∀ (v0 : Nat) (v1 : Nat) (v2 : Int32) (v3 : Int32) (ce sl : Nat), rec4 v0 v1 v2 v3 σ = some r → ce + (0) ≤ 0 → sl + (0) ≤ 0 → sw_G p l e (sw_R 2 0 0 43) s m args below meth c Q 4 A D cT σ ce sl 4 [(0, P_ (some v0)), (1, P_ (some v1)), (2, I_ v2), (3, I_ v3)] []) (v0 : Nat) (v1 : Nat) (v2 : Int32) (v3 : Int32) (ce sl : Nat) (h : B_X0_total_4 rec4 v0 v1 v2 v3 σ = some r) (hce : ce + (0) ≤ 0) (hsl : sl + (0) ≤ 0) : sw_G p l e (sw_R 2 0 0 43) s m args below meth c Q 4 A D cT σ ce sl 4 [(0, P_ (some v0)), (1, P_ (some v1)), (2, I_ v2), (3, I_ v3)] [] := by
  unfold B_X0_total_4 at h
  refine g_iload_n (pc := 4) K 3 rfl rfl dX0_total_4 ?_
  refine g_aload_n (pc := 5) K 0 rfl rfl dX0_total_5 ?_
  replace h := Option.bind_eq_some_iff.mp h
  obtain ⟨x1, e2, h⟩ := h
  refine g_getI (pc := 6) K cl_0 hin_X0 (k := 8) (by decide) tb_134 rfl e2 dX0_total_6 ?_
  refine g_icmp_ge (pc := 9) K 70 dX0_total_9 (by decide) (fun c3 => ?_) (fun c3 => ?_)
  · replace h := (if_pos c3).symm.trans h
    refine g_iload_n (pc := 70) K 2 rfl rfl dX0_total_70 ?_
    cases h
    exact hT _ _ 71 _ (by omega) (by omega) dX0_total_71
  · replace h := (if_neg c3).symm.trans h
    refine g_aload_n (pc := 12) K 0 rfl rfl dX0_total_12 ?_
    refine g_iload_n (pc := 13) K 3 rfl rfl dX0_total_13 ?_
    refine g_aload_n (pc := 14) K 1 rfl rfl dX0_total_14 ?_
    replace h := Option.bind_eq_some_iff.mp h
    obtain ⟨f4, e5, h⟩ := h
    replace h := Option.bind_eq_some_iff.mp h
    obtain ⟨x7, e6, h⟩ := h
    refine g_callV (pc := 15) (st := []) K [I_ v3, P_ (some v1)] (c_X0_isRow _ _ _ _ _ _ _ e6) e5 cl_0 rfl tb_470 tb_467 tb_5 tb_469 sl_25 hd_X0_isRow ⟨Nat.le_of_ble_eq_true rfl, Nat.le_of_ble_eq_true rfl⟩ rfl (sw_rm (Nat.le_of_ble_eq_true rfl)) ⟨by show _ ≤ 0; omega, by show _ ≤ 0; omega⟩ dX0_total_15 ?_
    refine g_if_eq (pc := 18) K 27 dX0_total_18 (by decide) (fun c8 => ?_) (fun c8 => ?_)
    · replace h := (if_pos c8).symm.trans h
      refine g_aload_n (pc := 27) K 0 rfl rfl dX0_total_27 ?_
      replace h := Option.bind_eq_some_iff.mp h
      obtain ⟨r9, e10, h⟩ := h
      refine g_getR (pc := 28) K cl_0 hin_X0 (k := 4) (by decide) tb_130 rfl e10 dX0_total_28 ?_
      refine g_iload_n (pc := 31) K 3 rfl rfl dX0_total_31 ?_
      replace h := Option.bind_eq_some_iff.mp h
      obtain ⟨a11, rfl, h⟩ := h
      replace h := Option.bind_eq_some_iff.mp h
      obtain ⟨x13, e12, h⟩ := h
      refine g_zald (pc := 32) K e12 dX0_total_32 ?_
      refine g_if_eq (pc := 33) K 64 dX0_total_33 (by decide) (fun c14 => ?_) (fun c14 => ?_)
      · replace h := (if_pos c14).symm.trans h
        refine g_sub K [0, 1, 2, 3] rfl ?_
        exact w_X0_total_64 K hT hrec4  _ _ _ _ _ _ h (by omega) (by omega)
      · replace h := (if_neg c14).symm.trans h
        refine g_aload_n (pc := 36) K 1 rfl rfl dX0_total_36 ?_
        refine g_aload_n (pc := 37) K 0 rfl rfl dX0_total_37 ?_
        refine g_iload_n (pc := 38) K 3 rfl rfl dX0_total_38 ?_
        replace h := Option.bind_eq_some_iff.mp h
        obtain ⟨f15, e16, h⟩ := h
        replace h := Option.bind_eq_some_iff.mp h
        obtain ⟨x18, e17, h⟩ := h
        refine g_callV (pc := 39) (st := [P_ (some v1)]) K [I_ v3] (c_X0_spanFrom _ _ _ _ _ _ e17) e16 cl_0 rfl tb_451 tb_448 tb_5 tb_450 sl_22 hd_X0_spanFrom ⟨Nat.le_of_ble_eq_true rfl, Nat.le_of_ble_eq_true rfl⟩ rfl (sw_rm (Nat.le_of_ble_eq_true rfl)) ⟨by show _ ≤ 0; omega, by show _ ≤ 0; omega⟩ dX0_total_39 ?_
        refine g_aload_n (pc := 42) K 0 rfl rfl dX0_total_42 ?_
        refine g_iload_n (pc := 43) K 3 rfl rfl dX0_total_43 ?_
        refine g_iconst (pc := 44) (v := 1) K dX0_total_44 (by decide) ?_
        refine g_iadd (pc := 45) K dX0_total_45 ?_
        replace h := Option.bind_eq_some_iff.mp h
        obtain ⟨f19, e20, h⟩ := h
        replace h := Option.bind_eq_some_iff.mp h
        obtain ⟨x22, e21, h⟩ := h
        refine g_callV (pc := 46) (st := [J_ x18, P_ (some v1)]) K [I_ ((v3 + 1))] (c_X0_spanEnd _ _ _ _ _ _ e21) e20 cl_0 rfl tb_456 tb_453 tb_5 tb_455 sl_23 hd_X0_spanEnd ⟨Nat.le_of_ble_eq_true rfl, Nat.le_of_ble_eq_true rfl⟩ rfl (sw_rm (Nat.le_of_ble_eq_true rfl)) ⟨by show _ ≤ 0; omega, by show _ ≤ 0; omega⟩ dX0_total_46 ?_
        replace h := Option.bind_eq_some_iff.mp h
        obtain ⟨f23, e24, h⟩ := h
        replace h := Option.bind_eq_some_iff.mp h
        obtain ⟨x26, e25, h⟩ := h
        refine g_callV (pc := 49) (st := []) K [J_ x18, J_ x22] (c_X4_holds _ _ _ _ _ _ _ e25) e24 cl_4 rfl tb_372 tb_487 tb_9 tb_370 tb_371 hd_X4_holds ⟨Nat.le_of_ble_eq_true rfl, Nat.le_of_ble_eq_true rfl⟩ rfl (sw_rm (Nat.le_of_ble_eq_true rfl)) ⟨by show _ ≤ 0; omega, by show _ ≤ 0; omega⟩ dX0_total_49 ?_
        refine g_if_eq (pc := 52) K 64 dX0_total_52 (by decide) (fun c27 => ?_) (fun c27 => ?_)
        · replace h := (if_pos c27).symm.trans h
          refine g_sub K [0, 1, 2, 3] rfl ?_
          exact w_X0_total_64 K hT hrec4  _ _ _ _ _ _ h (by omega) (by omega)
        · replace h := (if_neg c27).symm.trans h
          refine g_iload_n (pc := 55) K 2 rfl rfl dX0_total_55 ?_
          refine g_aload_n (pc := 56) K 0 rfl rfl dX0_total_56 ?_
          replace h := Option.bind_eq_some_iff.mp h
          obtain ⟨r28, e29, h⟩ := h
          refine g_getR (pc := 57) K cl_0 hin_X0 (k := 3) (by decide) tb_129 rfl e29 dX0_total_57 ?_
          refine g_iload_n (pc := 60) K 3 rfl rfl dX0_total_60 ?_
          replace h := Option.bind_eq_some_iff.mp h
          obtain ⟨a30, rfl, h⟩ := h
          replace h := Option.bind_eq_some_iff.mp h
          obtain ⟨x32, e31, h⟩ := h
          refine g_iald (pc := 61) K e31 dX0_total_61 ?_
          refine g_iadd (pc := 62) K dX0_total_62 ?_
          refine g_istore_n (pc := 63) K [(2, I_ ((v2 + x32))), (0, P_ (some v0)), (1, P_ (some v1)), (3, I_ v3)] rfl (by decide) rfl dX0_total_63 ?_
          refine g_sub K [1, 2, 0, 3] rfl ?_
          exact w_X0_total_64 K hT hrec4  _ _ _ _ _ _ h (by omega) (by omega)
    · replace h := (if_neg c8).symm.trans h
      refine g_iinc (pc := 21) K 2 (v2 + 1) [(2, I_ ((v2 + 1))), (0, P_ (some v0)), (1, P_ (some v1)), (3, I_ v3)] rfl rfl (by decide) rfl dX0_total_21 ?_
      refine g_goto (pc := 24) (tgt := 64) K dX0_total_24 (by decide) ?_
      refine g_sub K [1, 2, 0, 3] rfl ?_
      exact w_X0_total_64 K hT hrec4  _ _ _ _ _ _ h (by omega) (by omega)
def b_X0_total_4  : Nat → Nat → Nat → Int32 → Int32 → sw_S → Option Int32
  | 0 => fun _ _ _ _ _ => none
  | n + 1 => B_X0_total_4 (b_X0_total_4  n)
theorem wl_X0_total_4 {p : Program} {l : Launch} {e : Env} {s : State} {m : MethodId} {args : Array Value} {below : List Frame} {meth : Method} {c : Code} {Q : State → Prop} {A : Nat → Prop} {D : va_G} {cT : Nat → ClassId} {σ : sw_S}  {r : Int32}  (K : sw_C p s m args c cX0_total 4 RX0 A D cT) (hT : sw_Ti cX0_total p l e (sw_R 2 0 0 43) s m args below meth c Q 4 A D cT 0 0 σ r) : ∀ (n : Nat) (v0 : Nat) (v1 : Nat) (v2 : Int32) (v3 : Int32) (ce sl : Nat), b_X0_total_4  n v0 v1 v2 v3 σ = some r → ce + (0) ≤ 0 → sl + (0) ≤ 0 → sw_G p l e (sw_R 2 0 0 43) s m args below meth c Q 4 A D cT σ ce sl 4 [(0, P_ (some v0)), (1, P_ (some v1)), (2, I_ v2), (3, I_ v3)] [] := by
  intro n
  induction n with
  | zero =>
    intro v0 v1 v2 v3 ce sl h
    exact absurd (show none = some r from h) (by simp)
  | succ n ih =>
    intro v0 v1 v2 v3 ce sl h hce hsl
    exact wB_X0_total_4 K hT (fun _ _ _ _ _ _ h h1 h2 => ih _ _ _ _ _ _ h h1 h2) _ _ _ _ _ _ h hce hsl
def f_X0_total (p0 : Nat) (q1 : Nat) (σ : sw_S) : Option Int32 :=
  b_X0_total_4 1000 p0 q1 0 0 σ
set_option maxHeartbeats 4000000 in
set_option maxRecDepth 100000 in
theorem c_X0_total  (l : Launch) (D : va_G) (cT : Nat → ClassId) (p0 : Nat) (q1 : Nat) (σ : sw_S) {r : Int32} (h : f_X0_total p0 q1 σ = some r) : sw_M l D cT yX0_total cX0_total 4 (some .int) 2 43 0 0 σ [P_ (some p0), P_ (some q1)] (some (I_ r)) σ := by
  refine sw_met_i (by decide) (Nat.le_of_ble_eq_true rfl) (fun p e s m args below meth c A Q K hnm hT => ?_)
  have hce : 0 + 0 ≤ 0 := Nat.le_of_ble_eq_true rfl
  have hsl : 0 + 0 ≤ 0 := Nat.le_of_ble_eq_true rfl
  unfold f_X0_total at h
  change sw_G p l e (sw_R 2 0 0 43) s m args below meth c Q 4 A D cT σ 0 0 0 [(0, P_ (some p0)), (1, P_ (some q1))] []
  refine g_iconst (pc := 0) (v := 0) K dX0_total_0 (by decide) ?_
  refine g_istore_n (pc := 1) K [(2, I_ 0), (0, P_ (some p0)), (1, P_ (some q1))] rfl (by decide) rfl dX0_total_1 ?_
  refine g_iconst (pc := 2) (v := 0) K dX0_total_2 (by decide) ?_
  refine g_istore_n (pc := 3) K [(3, I_ 0), (2, I_ 0), (0, P_ (some p0)), (1, P_ (some q1))] rfl (by decide) rfl dX0_total_3 ?_
  refine g_sub K [2, 3, 1, 0] rfl ?_
  exact wl_X0_total_4 K hT  1000 _ _ _ _ _ _ h (by omega) (by omega)
