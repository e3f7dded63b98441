def B_X0_keysRise_2 (rec2 : Nat → Int32 → sw_S → Option Int32) (v0 : Nat) (v1 : Int32) (σ : sw_S) : Option Int32 :=
  (sw_gI 0 v0 8 σ).bind fun x1 =>
  (if x1 ≤ v1 then
  some 1
  else
  (sw_gR 0 v0 2 σ).bind fun r4 =>
  r4.bind fun a6 =>
  (sw_al 0 a6 v1 σ).bind fun x8 =>
  (sw_gR 0 v0 2 σ).bind fun r9 =>
  r9.bind fun a11 =>
  (sw_al 0 a11 ((v1 - 1)) σ).bind fun x13 =>
  (if x13 < x8 then
  rec2 v0 ((v1 + 1)) σ
  else
  some 0))
set_option maxHeartbeats 4000000 in
set_option maxRecDepth 100000 in
theorem wB_X0_keysRise_2 {p : Program} {l : Launch} {e : Env} {s : State} {m : MethodId} {args : Array Value} {below : List Frame} {meth : Method} {c : Code} {Q : State → Prop} {A : Nat → Prop} {D : va_G} {cT : Nat → ClassId} {σ : sw_S}  {r : Int32}  (K : sw_C p s m args c cX0_keysRise 2 RX0 A D cT) (hT : sw_Tz cX0_keysRise p l e (sw_R 0 0 0 0) s m args below meth c Q 2 A D cT 0 0 σ r) {rec2 : Nat → Int32 → sw_S → Option Int32} (hrec2 : ∀ (v0 : Nat) (v1 : Int32) (ce sl : Nat), rec2 v0 v1 σ = some r → ce + (0) ≤ 0 → sl + (0) ≤ 0 → sw_G p l e (sw_R 0 0 0 0) s m args below meth c Q 2 A D cT σ ce sl 2 [(0, P_ (some v0)), (1, I_ v1)] []) (v0 : Nat) (v1 : Int32) (ce sl : Nat) (h : B_X0_keysRise_2 rec2 v0 v1 σ = some r) (hce : ce + (0) ≤ 0) (hsl : sl + (0) ≤ 0) : sw_G p l e (sw_R 0 0 0 0) s m args below meth c Q 2 A D cT σ ce sl 2 [(0, P_ (some v0)), (1, I_ v1)] [] := by
  unfold B_X0_keysRise_2 at h
  refine g_iload_n (pc := 2) K 1 rfl rfl dX0_keysRise_2 ?_
  refine g_aload_n (pc := 3) K 0 rfl rfl dX0_keysRise_3 ?_
  replace h := Option.bind_eq_some_iff.mp h
  obtain ⟨x1, e2, h⟩ := h
  refine g_getI (pc := 4) K cl_0 hin_X0 (k := 8) (by decide) tb_134 rfl e2 dX0_keysRise_4 ?_
  refine g_icmp_ge (pc := 7) K 35 dX0_keysRise_7 (by decide) (fun c3 => ?_) (fun c3 => ?_)
  · replace h := (if_pos c3).symm.trans h
    refine g_iconst (pc := 35) (v := 1) K dX0_keysRise_35 (by decide) ?_
    cases h
    exact hT _ _ 36 _ (by omega) (by omega) rfl dX0_keysRise_36
  · replace h := (if_neg c3).symm.trans h
    refine g_aload_n (pc := 10) K 0 rfl rfl dX0_keysRise_10 ?_
    replace h := Option.bind_eq_some_iff.mp h
    obtain ⟨r4, e5, h⟩ := h
    refine g_getR (pc := 11) K cl_0 hin_X0 (k := 2) (by decide) tb_128 rfl e5 dX0_keysRise_11 ?_
    refine g_iload_n (pc := 14) K 1 rfl rfl dX0_keysRise_14 ?_
    replace h := Option.bind_eq_some_iff.mp h
    obtain ⟨a6, rfl, h⟩ := h
    replace h := Option.bind_eq_some_iff.mp h
    obtain ⟨x8, e7, h⟩ := h
    refine g_iald (pc := 15) K e7 dX0_keysRise_15 ?_
    refine g_aload_n (pc := 16) K 0 rfl rfl dX0_keysRise_16 ?_
    replace h := Option.bind_eq_some_iff.mp h
    obtain ⟨r9, e10, h⟩ := h
    refine g_getR (pc := 17) K cl_0 hin_X0 (k := 2) (by decide) tb_128 rfl e10 dX0_keysRise_17 ?_
    refine g_iload_n (pc := 20) K 1 rfl rfl dX0_keysRise_20 ?_
    refine g_iconst (pc := 21) (v := 1) K dX0_keysRise_21 (by decide) ?_
    refine g_isub (pc := 22) K dX0_keysRise_22 ?_
    replace h := Option.bind_eq_some_iff.mp h
    obtain ⟨a11, rfl, h⟩ := h
    replace h := Option.bind_eq_some_iff.mp h
    obtain ⟨x13, e12, h⟩ := h
    refine g_iald (pc := 23) K e12 dX0_keysRise_23 ?_
    refine g_icmp_gt (pc := 24) K 29 dX0_keysRise_24 (by decide) (fun c14 => ?_) (fun c14 => ?_)
    · replace h := (if_pos c14).symm.trans h
      refine g_iinc (pc := 29) K 1 (v1 + 1) [(1, I_ ((v1 + 1))), (0, P_ (some v0))] rfl rfl (by decide) rfl dX0_keysRise_29 ?_
      refine g_goto (pc := 32) (tgt := 2) K dX0_keysRise_32 (by decide) ?_
      refine g_sub K [1, 0] rfl ?_
      exact hrec2 _ _ _ _ h (by omega) (by omega)
    · replace h := (if_neg c14).symm.trans h
      refine g_iconst (pc := 27) (v := 0) K dX0_keysRise_27 (by decide) ?_
      cases h
      exact hT _ _ 28 _ (by omega) (by omega) rfl dX0_keysRise_28
def b_X0_keysRise_2  : Nat → Nat → Int32 → sw_S → Option Int32
  | 0 => fun _ _ _ => none
  | n + 1 => B_X0_keysRise_2 (b_X0_keysRise_2  n)
theorem wl_X0_keysRise_2 {p : Program} {l : Launch} {e : Env} {s : State} {m : MethodId} {args : Array Value} {below : List Frame} {meth : Method} {c : Code} {Q : State → Prop} {A : Nat → Prop} {D : va_G} {cT : Nat → ClassId} {σ : sw_S}  {r : Int32}  (K : sw_C p s m args c cX0_keysRise 2 RX0 A D cT) (hT : sw_Tz cX0_keysRise p l e (sw_R 0 0 0 0) s m args below meth c Q 2 A D cT 0 0 σ r) : ∀ (n : Nat) (v0 : Nat) (v1 : Int32) (ce sl : Nat), b_X0_keysRise_2  n v0 v1 σ = some r → ce + (0) ≤ 0 → sl + (0) ≤ 0 → sw_G p l e (sw_R 0 0 0 0) s m args below meth c Q 2 A D cT σ ce sl 2 [(0, P_ (some v0)), (1, I_ v1)] [] := by
  intro n
  induction n with
  | zero =>
    intro v0 v1 ce sl h
    exact absurd (show none = some r from h) (by simp)
  | succ n ih =>
    intro v0 v1 ce sl h hce hsl
    exact wB_X0_keysRise_2 K hT (fun _ _ _ _ h h1 h2 => ih _ _ _ _ h h1 h2) _ _ _ _ h hce hsl
def f_X0_keysRise (p0 : Nat) (σ : sw_S) : Option Int32 :=
  b_X0_keysRise_2 1000 p0 1 σ
set_option maxHeartbeats 4000000 in
set_option maxRecDepth 100000 in
theorem c_X0_keysRise  (l : Launch) (D : va_G) (cT : Nat → ClassId) (p0 : Nat) (σ : sw_S) {r : Int32} (h : f_X0_keysRise p0 σ = some r) : sw_M l D cT yX0_keysRise cX0_keysRise 2 (some .boolean) 0 0 0 0 σ [P_ (some p0)] (some (I_ r)) σ := by
  refine sw_met_z (by decide) (Nat.le_of_ble_eq_true rfl) (fun p e s m args below meth c A Q K hnm hT => ?_)
  have hce : 0 + 0 ≤ 0 := Nat.le_of_ble_eq_true rfl
  have hsl : 0 + 0 ≤ 0 := Nat.le_of_ble_eq_true rfl
  unfold f_X0_keysRise at h
  change sw_G p l e (sw_R 0 0 0 0) s m args below meth c Q 2 A D cT σ 0 0 0 [(0, P_ (some p0))] []
  refine g_iconst (pc := 0) (v := 1) K dX0_keysRise_0 (by decide) ?_
  refine g_istore_n (pc := 1) K [(1, I_ 1), (0, P_ (some p0))] rfl (by decide) rfl dX0_keysRise_1 ?_
  refine g_sub K [1, 0] rfl ?_
  exact wl_X0_keysRise_2 K hT  1000 _ _ _ _ h (by omega) (by omega)

def b_X0_spanFrom_17 (t0 : Int64) (σ : sw_S) : Option Int64 :=
  some t0
set_option maxHeartbeats 4000000 in
set_option maxRecDepth 100000 in
theorem w_X0_spanFrom_17 {p : Program} {l : Launch} {e : Env} {s : State} {m : MethodId} {args : Array Value} {below : List Frame} {meth : Method} {c : Code} {Q : State → Prop} {A : Nat → Prop} {D : va_G} {cT : Nat → ClassId} {σ : sw_S}  {r : Int64}  (K : sw_C p s m args c cX0_spanFrom 2 RX0 A D cT) (hT : sw_Tl cX0_spanFrom p l e (sw_R 0 0 0 0) s m args below meth c Q 2 A D cT 0 0 σ r) (t0 : Int64) (ce sl : Nat) (h : b_X0_spanFrom_17 t0 σ = some r) (hce : ce + (0) ≤ 0) (hsl : sl + (0) ≤ 0) : sw_G p l e (sw_R 0 0 0 0) s m args below meth c Q 2 A D cT σ ce sl 17 [] [J_ t0] := by
  unfold b_X0_spanFrom_17 at h
  cases h
  exact hT _ _ 17 _ (by omega) (by omega) dX0_spanFrom_17
def f_X0_spanFrom (p0 : Nat) (q1 : Int32) (σ : sw_S) : Option Int64 :=
  (if q1 ≤ 0 then
  b_X0_spanFrom_17 ((-1099511627776)) σ
  else
  (sw_gR 0 p0 2 σ).bind fun r2 =>
  r2.bind fun a4 =>
  (sw_al 0 a4 q1 σ).bind fun x6 =>
  b_X0_spanFrom_17 ((Int32.toInt64 x6)) σ)
set_option maxHeartbeats 4000000 in
set_option maxRecDepth 100000 in
theorem c_X0_spanFrom  (l : Launch) (D : va_G) (cT : Nat → ClassId) (p0 : Nat) (q1 : Int32) (σ : sw_S) {r : Int64} (h : f_X0_spanFrom p0 q1 σ = some r) : sw_M l D cT yX0_spanFrom cX0_spanFrom 2 (some .long) 0 0 0 0 σ [P_ (some p0), I_ q1] (some (J_ r)) σ := by
  refine sw_met_l (by decide) (Nat.le_of_ble_eq_true rfl) (fun p e s m args below meth c A Q K hnm hT => ?_)
  have hce : 0 + 0 ≤ 0 := Nat.le_of_ble_eq_true rfl
  have hsl : 0 + 0 ≤ 0 := Nat.le_of_ble_eq_true rfl
  unfold f_X0_spanFrom at h
  change sw_G p l e (sw_R 0 0 0 0) s m args below meth c Q 2 A D cT σ 0 0 0 [(0, P_ (some p0)), (1, I_ q1)] []
  refine g_iload_n (pc := 0) K 1 rfl rfl dX0_spanFrom_0 ?_
  refine g_if_le (pc := 1) K 14 dX0_spanFrom_1 (by decide) (fun c1 => ?_) (fun c1 => ?_)
  · replace h := (if_pos c1).symm.trans h
    refine g_ldc2 (pc := 14) (v := (-1099511627776)) K tb_452 dX0_spanFrom_14 ?_
    refine g_sub K [] rfl ?_
    exact w_X0_spanFrom_17 K hT  _ _ _ h (by omega) (by omega)
  · replace h := (if_neg c1).symm.trans h
    refine g_aload_n (pc := 4) K 0 rfl rfl dX0_spanFrom_4 ?_
    replace h := Option.bind_eq_some_iff.mp h
    obtain ⟨r2, e3, h⟩ := h
    refine g_getR (pc := 5) K cl_0 hin_X0 (k := 2) (by decide) tb_128 rfl e3 dX0_spanFrom_5 ?_
    refine g_iload_n (pc := 8) K 1 rfl rfl dX0_spanFrom_8 ?_
    replace h := Option.bind_eq_some_iff.mp h
    obtain ⟨a4, rfl, h⟩ := h
    replace h := Option.bind_eq_some_iff.mp h
    obtain ⟨x6, e5, h⟩ := h
    refine g_iald (pc := 9) K e5 dX0_spanFrom_9 ?_
    refine g_i2l (pc := 10) K dX0_spanFrom_10 ?_
    refine g_goto (pc := 11) (tgt := 17) K dX0_spanFrom_11 (by decide) ?_
    refine g_sub K [] rfl ?_
    exact w_X0_spanFrom_17 K hT  _ _ _ h (by omega) (by omega)

def b_X0_spanEnd_21 (t0 : Int64) (σ : sw_S) : Option Int64 :=
  some t0
set_option maxHeartbeats 4000000 in
set_option maxRecDepth 100000 in
theorem w_X0_spanEnd_21 {p : Program} {l : Launch} {e : Env} {s : State} {m : MethodId} {args : Array Value} {below : List Frame} {meth : Method} {c : Code} {Q : State → Prop} {A : Nat → Prop} {D : va_G} {cT : Nat → ClassId} {σ : sw_S}  {r : Int64}  (K : sw_C p s m args c cX0_spanEnd 2 RX0 A D cT) (hT : sw_Tl cX0_spanEnd p l e (sw_R 0 0 0 0) s m args below meth c Q 2 A D cT 0 0 σ r) (t0 : Int64) (ce sl : Nat) (h : b_X0_spanEnd_21 t0 σ = some r) (hce : ce + (0) ≤ 0) (hsl : sl + (0) ≤ 0) : sw_G p l e (sw_R 0 0 0 0) s m args below meth c Q 2 A D cT σ ce sl 21 [] [J_ t0] := by
  unfold b_X0_spanEnd_21 at h
  cases h
  exact hT _ _ 21 _ (by omega) (by omega) dX0_spanEnd_21
def f_X0_spanEnd (p0 : Nat) (q1 : Int32) (σ : sw_S) : Option Int64 :=
  (sw_gI 0 p0 8 σ).bind fun x1 =>
  (if x1 ≤ q1 then
  b_X0_spanEnd_21 1099511627776 σ
  else
  (sw_gR 0 p0 2 σ).bind fun r4 =>
  r4.bind fun a6 =>
  (sw_al 0 a6 q1 σ).bind fun x8 =>
  b_X0_spanEnd_21 ((Int32.toInt64 x8)) σ)
set_option maxHeartbeats 4000000 in
set_option maxRecDepth 100000 in
theorem c_X0_spanEnd  (l : Launch) (D : va_G) (cT : Nat → ClassId) (p0 : Nat) (q1 : Int32) (σ : sw_S) {r : Int64} (h : f_X0_spanEnd p0 q1 σ = some r) : sw_M l D cT yX0_spanEnd cX0_spanEnd 2 (some .long) 0 0 0 0 σ [P_ (some p0), I_ q1] (some (J_ r)) σ := by
  refine sw_met_l (by decide) (Nat.le_of_ble_eq_true rfl) (fun p e s m args below meth c A Q K hnm hT => ?_)
  have hce : 0 + 0 ≤ 0 := Nat.le_of_ble_eq_true rfl
  have hsl : 0 + 0 ≤ 0 := Nat.le_of_ble_eq_true rfl
  unfold f_X0_spanEnd at h
  change sw_G p l e (sw_R 0 0 0 0) s m args below meth c Q 2 A D cT σ 0 0 0 [(0, P_ (some p0)), (1, I_ q1)] []
  refine g_iload_n (pc := 0) K 1 rfl rfl dX0_spanEnd_0 ?_
  refine g_aload_n (pc := 1) K 0 rfl rfl dX0_spanEnd_1 ?_
  replace h := Option.bind_eq_some_iff.mp h
  obtain ⟨x1, e2, h⟩ := h
  refine g_getI (pc := 2) K cl_0 hin_X0 (k := 8) (by decide) tb_134 rfl e2 dX0_spanEnd_2 ?_
  refine g_icmp_ge (pc := 5) K 18 dX0_spanEnd_5 (by decide) (fun c3 => ?_) (fun c3 => ?_)
  · replace h := (if_pos c3).symm.trans h
    refine g_ldc2 (pc := 18) (v := 1099511627776) K tb_457 dX0_spanEnd_18 ?_
    refine g_sub K [] rfl ?_
    exact w_X0_spanEnd_21 K hT  _ _ _ h (by omega) (by omega)
  · replace h := (if_neg c3).symm.trans h
    refine g_aload_n (pc := 8) K 0 rfl rfl dX0_spanEnd_8 ?_
    replace h := Option.bind_eq_some_iff.mp h
    obtain ⟨r4, e5, h⟩ := h
    refine g_getR (pc := 9) K cl_0 hin_X0 (k := 2) (by decide) tb_128 rfl e5 dX0_spanEnd_9 ?_
    refine g_iload_n (pc := 12) K 1 rfl rfl dX0_spanEnd_12 ?_
    replace h := Option.bind_eq_some_iff.mp h
    obtain ⟨a6, rfl, h⟩ := h
    replace h := Option.bind_eq_some_iff.mp h
    obtain ⟨x8, e7, h⟩ := h
    refine g_iald (pc := 13) K e7 dX0_spanEnd_13 ?_
    refine g_i2l (pc := 14) K dX0_spanEnd_14 ?_
    refine g_goto (pc := 15) (tgt := 21) K dX0_spanEnd_15 (by decide) ?_
    refine g_sub K [] rfl ?_
    exact w_X0_spanEnd_21 K hT  _ _ _ h (by omega) (by omega)
