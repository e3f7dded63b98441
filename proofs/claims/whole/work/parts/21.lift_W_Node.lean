def f_X1_init (p0 : Nat) (q1 : Int32) (q2 : Int32) (σ : sw_S) : Option sw_S :=
  (sw_z q1).bind fun z1 =>
  (sw_pt 1 p0 0 (.int z1) σ).bind fun σ4 =>
  (sw_nl q2 6).bind fun n6 =>
  (some (sw_nw σ4 (sw_rI n6))).bind fun σ8 =>
  (sw_pt 1 p0 1 (va_rf (some σ4.1)) σ8).bind fun σ10 =>
  (sw_nl q2 6).bind fun n12 =>
  (some (sw_nw σ10 (sw_rI n12))).bind fun σ14 =>
  (sw_pt 1 p0 2 (va_rf (some σ10.1)) σ14).bind fun σ16 =>
  (sw_nl q2 6).bind fun n18 =>
  (some (sw_nw σ16 (sw_rQ n18))).bind fun σ20 =>
  (sw_pt 1 p0 3 (va_rf (some σ16.1)) σ20).bind fun σ22 =>
  some σ22
set_option maxHeartbeats 4000000 in
set_option maxRecDepth 100000 in
theorem c_X1_init  (l : Launch) (D : va_G) (cT : Nat → ClassId) (p0 : Nat) (q1 : Int32) (q2 : Int32) (σ : sw_S) {σ' : sw_S} (h : f_X1_init p0 q1 q2 σ = some σ') : sw_M l D cT yX1_init cX1_init 3 none 1 20 3 18 σ [P_ (some p0), I_ q1, I_ q2] none σ' := by
  refine sw_met_v (by decide) (Nat.le_of_ble_eq_true rfl) (fun p e s m args below meth c A Q K hnm hT => ?_)
  have hce : 0 + 3 ≤ 3 := Nat.le_of_ble_eq_true rfl
  have hsl : 0 + 18 ≤ 18 := Nat.le_of_ble_eq_true rfl
  unfold f_X1_init at h
  change sw_G p l e (sw_R 1 3 18 20) s m args below meth c Q 3 A D cT σ 0 0 0 [(0, P_ (some p0)), (1, I_ q1), (2, I_ q2)] []
  refine g_aload_n (pc := 0) K 0 rfl rfl dX1_init_0 ?_
  refine g_objInit (pc := 1) K tb_30 tb_16 tb_17 ⟨Nat.le_of_ble_eq_true rfl, Nat.le_of_ble_eq_true rfl⟩ (sw_rm (Nat.le_of_ble_eq_true rfl)) dX1_init_1 ?_
  refine g_aload_n (pc := 4) K 0 rfl rfl dX1_init_4 ?_
  refine g_iload_n (pc := 5) K 1 rfl rfl dX1_init_5 ?_
  replace h := Option.bind_eq_some_iff.mp h
  obtain ⟨z1, e2, h⟩ := h
  obtain ⟨rfl, e3⟩ := sw_z_eq e2
  replace h := Option.bind_eq_some_iff.mp h
  obtain ⟨σ4, e5, h⟩ := h
  refine g_put (pc := 6) K cl_1 hin_X1 (k := 0) (by decide) tb_32 rfl tyX1 tyX1_ok nmX1 (Or.inr ⟨rfl, hnm, rfl⟩) e3.1 e3.2 e5 dX1_init_6 ?_
  refine g_aload_n (pc := 9) K 0 rfl rfl dX1_init_9 ?_
  refine g_iload_n (pc := 10) K 2 rfl rfl dX1_init_10 ?_
  replace h := Option.bind_eq_some_iff.mp h
  obtain ⟨n6, e7, h⟩ := h
  replace h := Option.bind_eq_some_iff.mp h
  obtain ⟨σ8, e9, h⟩ := h
  replace e9 := Option.some.inj e9
  refine g_new_int (pc := 11) K tb_73 e7 (Nat.le_of_ble_eq_true rfl) (by show _ ≤ 3; omega) (by show _ ≤ 18; omega) dX1_init_11 ?_
  rw [e9]
  replace h := Option.bind_eq_some_iff.mp h
  obtain ⟨σ10, e11, h⟩ := h
  refine g_put (pc := 13) K cl_1 hin_X1 (k := 1) (by decide) tb_35 rfl tyX1 tyX1_ok nmX1 (Or.inr ⟨rfl, hnm, rfl⟩) (sw_nr (tyX1 1) rfl _) (sw_fr (tyX1 1) rfl _) e11 dX1_init_13 ?_
  refine g_aload_n (pc := 16) K 0 rfl rfl dX1_init_16 ?_
  refine g_iload_n (pc := 17) K 2 rfl rfl dX1_init_17 ?_
  replace h := Option.bind_eq_some_iff.mp h
  obtain ⟨n12, e13, h⟩ := h
  replace h := Option.bind_eq_some_iff.mp h
  obtain ⟨σ14, e15, h⟩ := h
  replace e15 := Option.some.inj e15
  refine g_new_int (pc := 18) K tb_73 e13 (Nat.le_of_ble_eq_true rfl) (by show _ ≤ 3; omega) (by show _ ≤ 18; omega) dX1_init_18 ?_
  rw [e15]
  replace h := Option.bind_eq_some_iff.mp h
  obtain ⟨σ16, e17, h⟩ := h
  refine g_put (pc := 20) K cl_1 hin_X1 (k := 2) (by decide) tb_38 rfl tyX1 tyX1_ok nmX1 (Or.inr ⟨rfl, hnm, rfl⟩) (sw_nr (tyX1 2) rfl _) (sw_fr (tyX1 2) rfl _) e17 dX1_init_20 ?_
  refine g_aload_n (pc := 23) K 0 rfl rfl dX1_init_23 ?_
  refine g_iload_n (pc := 24) K 2 rfl rfl dX1_init_24 ?_
  replace h := Option.bind_eq_some_iff.mp h
  obtain ⟨n18, e19, h⟩ := h
  replace h := Option.bind_eq_some_iff.mp h
  obtain ⟨σ20, e21, h⟩ := h
  replace e21 := Option.some.inj e21
  refine g_newq (pc := 25) K tb_31 e19 (Nat.le_of_ble_eq_true rfl) (by show _ ≤ 3; omega) (by show _ ≤ 18; omega) dX1_init_25 ?_
  rw [e21]
  replace h := Option.bind_eq_some_iff.mp h
  obtain ⟨σ22, e23, h⟩ := h
  refine g_put (pc := 28) K cl_1 hin_X1 (k := 3) (by decide) tb_41 rfl tyX1 tyX1_ok nmX1 (Or.inr ⟨rfl, hnm, rfl⟩) (sw_nr (tyX1 3) rfl _) (sw_fr (tyX1 3) rfl _) e23 dX1_init_28 ?_
  cases h
  exact hT _ _ 31 _ (by omega) (by omega) dX1_init_31

def b_X1_slotOf_26 (v2 : Int32) (σ : sw_S) : Option Int32 :=
  some v2
set_option maxHeartbeats 4000000 in
set_option maxRecDepth 100000 in
theorem w_X1_slotOf_26 {p : Program} {l : Launch} {e : Env} {s : State} {m : MethodId} {args : Array Value} {below : List Frame} {meth : Method} {c : Code} {Q : State → Prop} {A : Nat → Prop} {D : va_G} {cT : Nat → ClassId} {σ : sw_S}  {r : Int32}  (K : sw_C p s m args c cX1_slotOf 3 RX1 A D cT) (hT : sw_Ti cX1_slotOf p l e (sw_R 0 0 0 0) s m args below meth c Q 3 A D cT 0 0 σ r) (v2 : Int32) (ce sl : Nat) (h : b_X1_slotOf_26 v2 σ = some r) (hce : ce + (0) ≤ 0) (hsl : sl + (0) ≤ 0) : sw_G p l e (sw_R 0 0 0 0) s m args below meth c Q 3 A D cT σ ce sl 26 [(2, I_ v2)] [] := by
  unfold b_X1_slotOf_26 at h
  refine g_iload_n (pc := 26) K 0 rfl rfl dX1_slotOf_26 ?_
  cases h
  exact hT _ _ 27 _ (by omega) (by omega) dX1_slotOf_27
def B_X1_slotOf_2 (rec2 : Nat → Int32 → Int32 → sw_S → Option Int32) (v0 : Nat) (v1 : Int32) (v2 : Int32) (σ : sw_S) : Option Int32 :=
  (sw_gI 1 v0 4 σ).bind fun x1 =>
  (if x1 ≤ v2 then
  b_X1_slotOf_26 v2 σ
  else
  (sw_gR 1 v0 1 σ).bind fun r4 =>
  r4.bind fun a6 =>
  (sw_al 0 a6 v2 σ).bind fun x8 =>
  (if v1 ≤ x8 then
  b_X1_slotOf_26 v2 σ
  else
  rec2 v0 v1 ((v2 + 1)) σ))
set_option maxHeartbeats 4000000 in
set_option maxRecDepth 100000 in
theorem wB_X1_slotOf_2 {p : Program} {l : Launch} {e : Env} {s : State} {m : MethodId} {args : Array Value} {below : List Frame} {meth : Method} {c : Code} {Q : State → Prop} {A : Nat → Prop} {D : va_G} {cT : Nat → ClassId} {σ : sw_S}  {r : Int32}  (K : sw_C p s m args c cX1_slotOf 3 RX1 A D cT) (hT : sw_Ti cX1_slotOf p l e (sw_R 0 0 0 0) s m args below meth c Q 3 A D cT 0 0 σ r) {rec2 : Nat → Int32 → Int32 → sw_S → Option Int32} (hrec2 : ∀ (v0 : Nat) (v1 : Int32) (v2 : Int32) (ce sl : Nat), rec2 v0 v1 v2 σ = some r → ce + (0) ≤ 0 → sl + (0) ≤ 0 → sw_G p l e (sw_R 0 0 0 0) s m args below meth c Q 3 A D cT σ ce sl 2 [(0, P_ (some v0)), (1, I_ v1), (2, I_ v2)] []) (v0 : Nat) (v1 : Int32) (v2 : Int32) (ce sl : Nat) (h : B_X1_slotOf_2 rec2 v0 v1 v2 σ = some r) (hce : ce + (0) ≤ 0) (hsl : sl + (0) ≤ 0) : sw_G p l e (sw_R 0 0 0 0) s m args below meth c Q 3 A D cT σ ce sl 2 [(0, P_ (some v0)), (1, I_ v1), (2, I_ v2)] [] := by
  unfold B_X1_slotOf_2 at h
  refine g_iload_n (pc := 2) K 2 rfl rfl dX1_slotOf_2 ?_
  refine g_aload_n (pc := 3) K 0 rfl rfl dX1_slotOf_3 ?_
  replace h := Option.bind_eq_some_iff.mp h
  obtain ⟨x1, e2, h⟩ := h
  refine g_getI (pc := 4) K cl_1 hin_X1 (k := 4) (by decide) tb_44 rfl e2 dX1_slotOf_4 ?_
  refine g_icmp_ge (pc := 7) K 26 dX1_slotOf_7 (by decide) (fun c3 => ?_) (fun c3 => ?_)
  · replace h := (if_pos c3).symm.trans h
    refine g_sub K [2] rfl ?_
    exact w_X1_slotOf_26 K hT  _ _ _ h (by omega) (by omega)
  · replace h := (if_neg c3).symm.trans h
    refine g_aload_n (pc := 10) K 0 rfl rfl dX1_slotOf_10 ?_
    replace h := Option.bind_eq_some_iff.mp h
    obtain ⟨r4, e5, h⟩ := h
    refine g_getR (pc := 11) K cl_1 hin_X1 (k := 1) (by decide) tb_35 rfl e5 dX1_slotOf_11 ?_
    refine g_iload_n (pc := 14) K 2 rfl rfl dX1_slotOf_14 ?_
    replace h := Option.bind_eq_some_iff.mp h
    obtain ⟨a6, rfl, h⟩ := h
    replace h := Option.bind_eq_some_iff.mp h
    obtain ⟨x8, e7, h⟩ := h
    refine g_iald (pc := 15) K e7 dX1_slotOf_15 ?_
    refine g_iload_n (pc := 16) K 1 rfl rfl dX1_slotOf_16 ?_
    refine g_icmp_ge (pc := 17) K 26 dX1_slotOf_17 (by decide) (fun c9 => ?_) (fun c9 => ?_)
    · replace h := (if_pos c9).symm.trans h
      refine g_sub K [2] rfl ?_
      exact w_X1_slotOf_26 K hT  _ _ _ h (by omega) (by omega)
    · replace h := (if_neg c9).symm.trans h
      refine g_iinc (pc := 20) K 2 (v2 + 1) [(2, I_ ((v2 + 1))), (0, P_ (some v0)), (1, I_ v1)] rfl rfl (by decide) rfl dX1_slotOf_20 ?_
      refine g_goto (pc := 23) (tgt := 2) K dX1_slotOf_23 (by decide) ?_
      refine g_sub K [1, 2, 0] rfl ?_
      exact hrec2 _ _ _ _ _ h (by omega) (by omega)
def b_X1_slotOf_2  : Nat → Nat → Int32 → Int32 → sw_S → Option Int32
  | 0 => fun _ _ _ _ => none
  | n + 1 => B_X1_slotOf_2 (b_X1_slotOf_2  n)
theorem wl_X1_slotOf_2 {p : Program} {l : Launch} {e : Env} {s : State} {m : MethodId} {args : Array Value} {below : List Frame} {meth : Method} {c : Code} {Q : State → Prop} {A : Nat → Prop} {D : va_G} {cT : Nat → ClassId} {σ : sw_S}  {r : Int32}  (K : sw_C p s m args c cX1_slotOf 3 RX1 A D cT) (hT : sw_Ti cX1_slotOf p l e (sw_R 0 0 0 0) s m args below meth c Q 3 A D cT 0 0 σ r) : ∀ (n : Nat) (v0 : Nat) (v1 : Int32) (v2 : Int32) (ce sl : Nat), b_X1_slotOf_2  n v0 v1 v2 σ = some r → ce + (0) ≤ 0 → sl + (0) ≤ 0 → sw_G p l e (sw_R 0 0 0 0) s m args below meth c Q 3 A D cT σ ce sl 2 [(0, P_ (some v0)), (1, I_ v1), (2, I_ v2)] [] := by
  intro n
  induction n with
  | zero =>
    intro v0 v1 v2 ce sl h
    exact absurd (show none = some r from h) (by simp)
  | succ n ih =>
    intro v0 v1 v2 ce sl h hce hsl
    exact wB_X1_slotOf_2 K hT (fun _ _ _ _ _ h h1 h2 => ih _ _ _ _ _ h h1 h2) _ _ _ _ _ h hce hsl
def f_X1_slotOf (p0 : Nat) (q1 : Int32) (σ : sw_S) : Option Int32 :=
  b_X1_slotOf_2 1000 p0 q1 0 σ
set_option maxHeartbeats 4000000 in
set_option maxRecDepth 100000 in
theorem c_X1_slotOf  (l : Launch) (D : va_G) (cT : Nat → ClassId) (p0 : Nat) (q1 : Int32) (σ : sw_S) {r : Int32} (h : f_X1_slotOf p0 q1 σ = some r) : sw_M l D cT yX1_slotOf cX1_slotOf 3 (some .int) 0 0 0 0 σ [P_ (some p0), I_ q1] (some (I_ r)) σ := by
  refine sw_met_i (by decide) (Nat.le_of_ble_eq_true rfl) (fun p e s m args below meth c A Q K hnm hT => ?_)
  have hce : 0 + 0 ≤ 0 := Nat.le_of_ble_eq_true rfl
  have hsl : 0 + 0 ≤ 0 := Nat.le_of_ble_eq_true rfl
  unfold f_X1_slotOf at h
  change sw_G p l e (sw_R 0 0 0 0) s m args below meth c Q 3 A D cT σ 0 0 0 [(0, P_ (some p0)), (1, I_ q1)] []
  refine g_iconst (pc := 0) (v := 0) K dX1_slotOf_0 (by decide) ?_
  refine g_istore_n (pc := 1) K [(2, I_ 0), (0, P_ (some p0)), (1, I_ q1)] rfl (by decide) rfl dX1_slotOf_1 ?_
  refine g_sub K [1, 2, 0] rfl ?_
  exact wl_X1_slotOf_2 K hT  1000 _ _ _ _ _ h (by omega) (by omega)

def b_X1_hasAt_23 (t0 : Int32) (σ : sw_S) : Option Int32 :=
  (sw_z t0).bind fun z1 =>
  some z1
set_option maxHeartbeats 4000000 in
set_option maxRecDepth 100000 in
theorem w_X1_hasAt_23 {p : Program} {l : Launch} {e : Env} {s : State} {m : MethodId} {args : Array Value} {below : List Frame} {meth : Method} {c : Code} {Q : State → Prop} {A : Nat → Prop} {D : va_G} {cT : Nat → ClassId} {σ : sw_S}  {r : Int32}  (K : sw_C p s m args c cX1_hasAt 3 RX1 A D cT) (hT : sw_Tz cX1_hasAt p l e (sw_R 0 0 0 0) s m args below meth c Q 3 A D cT 0 0 σ r) (t0 : Int32) (ce sl : Nat) (h : b_X1_hasAt_23 t0 σ = some r) (hce : ce + (0) ≤ 0) (hsl : sl + (0) ≤ 0) : sw_G p l e (sw_R 0 0 0 0) s m args below meth c Q 3 A D cT σ ce sl 23 [] [I_ t0] := by
  unfold b_X1_hasAt_23 at h
  replace h := Option.bind_eq_some_iff.mp h
  obtain ⟨z1, e2, h⟩ := h
  obtain ⟨rfl, e3⟩ := sw_z_eq e2
  cases h
  exact hT _ _ 23 _ (by omega) (by omega) e3.1 dX1_hasAt_23
def b_X1_hasAt_22 (σ : sw_S) : Option Int32 :=
  b_X1_hasAt_23 0 σ
set_option maxHeartbeats 4000000 in
set_option maxRecDepth 100000 in
theorem w_X1_hasAt_22 {p : Program} {l : Launch} {e : Env} {s : State} {m : MethodId} {args : Array Value} {below : List Frame} {meth : Method} {c : Code} {Q : State → Prop} {A : Nat → Prop} {D : va_G} {cT : Nat → ClassId} {σ : sw_S}  {r : Int32}  (K : sw_C p s m args c cX1_hasAt 3 RX1 A D cT) (hT : sw_Tz cX1_hasAt p l e (sw_R 0 0 0 0) s m args below meth c Q 3 A D cT 0 0 σ r) (ce sl : Nat) (h : b_X1_hasAt_22  σ = some r) (hce : ce + (0) ≤ 0) (hsl : sl + (0) ≤ 0) : sw_G p l e (sw_R 0 0 0 0) s m args below meth c Q 3 A D cT σ ce sl 22 [] [] := by
  unfold b_X1_hasAt_22 at h
  refine g_iconst (pc := 22) (v := 0) K dX1_hasAt_22 (by decide) ?_
  refine g_sub K [] rfl ?_
  exact w_X1_hasAt_23 K hT  _ _ _ h (by omega) (by omega)
def f_X1_hasAt (p0 : Nat) (q1 : Int32) (q2 : Int32) (σ : sw_S) : Option Int32 :=
  (sw_gI 1 p0 4 σ).bind fun x1 =>
  (if x1 ≤ q1 then
  b_X1_hasAt_22  σ
  else
  (sw_gR 1 p0 1 σ).bind fun r4 =>
  r4.bind fun a6 =>
  (sw_al 0 a6 q1 σ).bind fun x8 =>
  (if x8 = q2 then
  b_X1_hasAt_23 1 σ
  else
  b_X1_hasAt_22  σ))
set_option maxHeartbeats 4000000 in
set_option maxRecDepth 100000 in
theorem c_X1_hasAt  (l : Launch) (D : va_G) (cT : Nat → ClassId) (p0 : Nat) (q1 : Int32) (q2 : Int32) (σ : sw_S) {r : Int32} (h : f_X1_hasAt p0 q1 q2 σ = some r) : sw_M l D cT yX1_hasAt cX1_hasAt 3 (some .boolean) 0 0 0 0 σ [P_ (some p0), I_ q1, I_ q2] (some (I_ r)) σ := by
  refine sw_met_z (by decide) (Nat.le_of_ble_eq_true rfl) (fun p e s m args below meth c A Q K hnm hT => ?_)
  have hce : 0 + 0 ≤ 0 := Nat.le_of_ble_eq_true rfl
  have hsl : 0 + 0 ≤ 0 := Nat.le_of_ble_eq_true rfl
  unfold f_X1_hasAt at h
  change sw_G p l e (sw_R 0 0 0 0) s m args below meth c Q 3 A D cT σ 0 0 0 [(0, P_ (some p0)), (1, I_ q1), (2, I_ q2)] []
  refine g_iload_n (pc := 0) K 1 rfl rfl dX1_hasAt_0 ?_
  refine g_aload_n (pc := 1) K 0 rfl rfl dX1_hasAt_1 ?_
  replace h := Option.bind_eq_some_iff.mp h
  obtain ⟨x1, e2, h⟩ := h
  refine g_getI (pc := 2) K cl_1 hin_X1 (k := 4) (by decide) tb_44 rfl e2 dX1_hasAt_2 ?_
  refine g_icmp_ge (pc := 5) K 22 dX1_hasAt_5 (by decide) (fun c3 => ?_) (fun c3 => ?_)
  · replace h := (if_pos c3).symm.trans h
    refine g_sub K [] rfl ?_
    exact w_X1_hasAt_22 K hT   _ _ h (by omega) (by omega)
  · replace h := (if_neg c3).symm.trans h
    refine g_aload_n (pc := 8) K 0 rfl rfl dX1_hasAt_8 ?_
    replace h := Option.bind_eq_some_iff.mp h
    obtain ⟨r4, e5, h⟩ := h
    refine g_getR (pc := 9) K cl_1 hin_X1 (k := 1) (by decide) tb_35 rfl e5 dX1_hasAt_9 ?_
    refine g_iload_n (pc := 12) K 1 rfl rfl dX1_hasAt_12 ?_
    replace h := Option.bind_eq_some_iff.mp h
    obtain ⟨a6, rfl, h⟩ := h
    replace h := Option.bind_eq_some_iff.mp h
    obtain ⟨x8, e7, h⟩ := h
    refine g_iald (pc := 13) K e7 dX1_hasAt_13 ?_
    refine g_iload_n (pc := 14) K 2 rfl rfl dX1_hasAt_14 ?_
    refine g_icmp_ne (pc := 15) K 22 dX1_hasAt_15 (by decide) (fun c9 => ?_) (fun c9 => ?_)
    · replace h := (if_pos c9).symm.trans h
      refine g_iconst (pc := 18) (v := 1) K dX1_hasAt_18 (by decide) ?_
      refine g_goto (pc := 19) (tgt := 23) K dX1_hasAt_19 (by decide) ?_
      refine g_sub K [] rfl ?_
      exact w_X1_hasAt_23 K hT  _ _ _ h (by omega) (by omega)
    · replace h := (if_neg c9).symm.trans h
      refine g_sub K [] rfl ?_
      exact w_X1_hasAt_22 K hT   _ _ h (by omega) (by omega)

def b_X1_childFor_33 (v2 : Int32) (σ : sw_S) : Option Int32 :=
  some v2
set_option maxHeartbeats 4000000 in
set_option maxRecDepth 100000 in
theorem w_X1_childFor_33 {p : Program} {l : Launch} {e : Env} {s : State} {m : MethodId} {args : Array Value} {below : List Frame} {meth : Method} {c : Code} {Q : State → Prop} {A : Nat → Prop} {D : va_G} {cT : Nat → ClassId} {σ : sw_S}  {r : Int32}  (K : sw_C p s m args c cX1_childFor 3 RX1 A D cT) (hT : sw_Ti cX1_childFor p l e (sw_R 0 0 0 0) s m args below meth c Q 3 A D cT 0 0 σ r) (v2 : Int32) (ce sl : Nat) (h : b_X1_childFor_33 v2 σ = some r) (hce : ce + (0) ≤ 0) (hsl : sl + (0) ≤ 0) : sw_G p l e (sw_R 0 0 0 0) s m args below meth c Q 3 A D cT σ ce sl 33 [(2, I_ v2)] [] := by
  unfold b_X1_childFor_33 at h
  refine g_iload_n (pc := 33) K 0 rfl rfl dX1_childFor_33 ?_
  cases h
  exact hT _ _ 34 _ (by omega) (by omega) dX1_childFor_34
def B_X1_childFor_2 (rec2 : Nat → Int32 → Int32 → sw_S → Option Int32) (v0 : Nat) (v1 : Int32) (v2 : Int32) (σ : sw_S) : Option Int32 :=
  (sw_gI 1 v0 4 σ).bind fun x1 =>
  (if x1 ≤ ((v2 + 1)) then
  b_X1_childFor_33 v2 σ
  else
  (sw_gR 1 v0 3 σ).bind fun r4 =>
  r4.bind fun a6 =>
  (sw_ql a6 ((v2 + 1)) σ).bind fun r8 =>
  r8.bind fun a9 =>
  (sw_gI 1 a9 5 σ).bind fun x10 =>
  (if v1 < x10 then
  b_X1_childFor_33 v2 σ
  else
  rec2 v0 v1 ((v2 + 1)) σ))
set_option maxHeartbeats 4000000 in
set_option maxRecDepth 100000 in
theorem wB_X1_childFor_2 {p : Program} {l : Launch} {e : Env} {s : State} {m : MethodId} {args : Array Value} {below : List Frame} {meth : Method} {c : Code} {Q : State → Prop} {A : Nat → Prop} {D : va_G} {cT : Nat → ClassId} {σ : sw_S}  {r : Int32}  (K : sw_C p s m args c cX1_childFor 3 RX1 A D cT) (hT : sw_Ti cX1_childFor p l e (sw_R 0 0 0 0) s m args below meth c Q 3 A D cT 0 0 σ r) {rec2 : Nat → Int32 → Int32 → sw_S → Option Int32} (hrec2 : ∀ (v0 : Nat) (v1 : Int32) (v2 : Int32) (ce sl : Nat), rec2 v0 v1 v2 σ = some r → ce + (0) ≤ 0 → sl + (0) ≤ 0 → sw_G p l e (sw_R 0 0 0 0) s m args below meth c Q 3 A D cT σ ce sl 2 [(0, P_ (some v0)), (1, I_ v1), (2, I_ v2)] []) (v0 : Nat) (v1 : Int32) (v2 : Int32) (ce sl : Nat) (h : B_X1_childFor_2 rec2 v0 v1 v2 σ = some r) (hce : ce + (0) ≤ 0) (hsl : sl + (0) ≤ 0) : sw_G p l e (sw_R 0 0 0 0) s m args below meth c Q 3 A D cT σ ce sl 2 [(0, P_ (some v0)), (1, I_ v1), (2, I_ v2)] [] := by
  unfold B_X1_childFor_2 at h
  refine g_iload_n (pc := 2) K 2 rfl rfl dX1_childFor_2 ?_
  refine g_iconst (pc := 3) (v := 1) K dX1_childFor_3 (by decide) ?_
  refine g_iadd (pc := 4) K dX1_childFor_4 ?_
  refine g_aload_n (pc := 5) K 0 rfl rfl dX1_childFor_5 ?_
  replace h := Option.bind_eq_some_iff.mp h
  obtain ⟨x1, e2, h⟩ := h
  refine g_getI (pc := 6) K cl_1 hin_X1 (k := 4) (by decide) tb_44 rfl e2 dX1_childFor_6 ?_
  refine g_icmp_ge (pc := 9) K 33 dX1_childFor_9 (by decide) (fun c3 => ?_) (fun c3 => ?_)
  · replace h := (if_pos c3).symm.trans h
    refine g_sub K [2] rfl ?_
    exact w_X1_childFor_33 K hT  _ _ _ h (by omega) (by omega)
  · replace h := (if_neg c3).symm.trans h
    refine g_aload_n (pc := 12) K 0 rfl rfl dX1_childFor_12 ?_
    replace h := Option.bind_eq_some_iff.mp h
    obtain ⟨r4, e5, h⟩ := h
    refine g_getR (pc := 13) K cl_1 hin_X1 (k := 3) (by decide) tb_41 rfl e5 dX1_childFor_13 ?_
    refine g_iload_n (pc := 16) K 2 rfl rfl dX1_childFor_16 ?_
    refine g_iconst (pc := 17) (v := 1) K dX1_childFor_17 (by decide) ?_
    refine g_iadd (pc := 18) K dX1_childFor_18 ?_
    replace h := Option.bind_eq_some_iff.mp h
    obtain ⟨a6, rfl, h⟩ := h
    replace h := Option.bind_eq_some_iff.mp h
    obtain ⟨r8, e7, h⟩ := h
    refine g_qald (pc := 19) K e7 dX1_childFor_19 ?_
    replace h := Option.bind_eq_some_iff.mp h
    obtain ⟨a9, rfl, h⟩ := h
    replace h := Option.bind_eq_some_iff.mp h
    obtain ⟨x10, e11, h⟩ := h
    refine g_getI (pc := 20) K cl_1 hin_X1 (k := 5) (by decide) tb_47 rfl e11 dX1_childFor_20 ?_
    refine g_iload_n (pc := 23) K 1 rfl rfl dX1_childFor_23 ?_
    refine g_icmp_gt (pc := 24) K 33 dX1_childFor_24 (by decide) (fun c12 => ?_) (fun c12 => ?_)
    · replace h := (if_pos c12).symm.trans h
      refine g_sub K [2] rfl ?_
      exact w_X1_childFor_33 K hT  _ _ _ h (by omega) (by omega)
    · replace h := (if_neg c12).symm.trans h
      refine g_iinc (pc := 27) K 2 (v2 + 1) [(2, I_ ((v2 + 1))), (0, P_ (some v0)), (1, I_ v1)] rfl rfl (by decide) rfl dX1_childFor_27 ?_
      refine g_goto (pc := 30) (tgt := 2) K dX1_childFor_30 (by decide) ?_
      refine g_sub K [1, 2, 0] rfl ?_
      exact hrec2 _ _ _ _ _ h (by omega) (by omega)
def b_X1_childFor_2  : Nat → Nat → Int32 → Int32 → sw_S → Option Int32
  | 0 => fun _ _ _ _ => none
  | n + 1 => B_X1_childFor_2 (b_X1_childFor_2  n)
theorem wl_X1_childFor_2 {p : Program} {l : Launch} {e : Env} {s : State} {m : MethodId} {args : Array Value} {below : List Frame} {meth : Method} {c : Code} {Q : State → Prop} {A : Nat → Prop} {D : va_G} {cT : Nat → ClassId} {σ : sw_S}  {r : Int32}  (K : sw_C p s m args c cX1_childFor 3 RX1 A D cT) (hT : sw_Ti cX1_childFor p l e (sw_R 0 0 0 0) s m args below meth c Q 3 A D cT 0 0 σ r) : ∀ (n : Nat) (v0 : Nat) (v1 : Int32) (v2 : Int32) (ce sl : Nat), b_X1_childFor_2  n v0 v1 v2 σ = some r → ce + (0) ≤ 0 → sl + (0) ≤ 0 → sw_G p l e (sw_R 0 0 0 0) s m args below meth c Q 3 A D cT σ ce sl 2 [(0, P_ (some v0)), (1, I_ v1), (2, I_ v2)] [] := by
  intro n
  induction n with
  | zero =>
    intro v0 v1 v2 ce sl h
    exact absurd (show none = some r from h) (by simp)
  | succ n ih =>
    intro v0 v1 v2 ce sl h hce hsl
    exact wB_X1_childFor_2 K hT (fun _ _ _ _ _ h h1 h2 => ih _ _ _ _ _ h h1 h2) _ _ _ _ _ h hce hsl
def f_X1_childFor (p0 : Nat) (q1 : Int32) (σ : sw_S) : Option Int32 :=
  b_X1_childFor_2 1000 p0 q1 0 σ
set_option maxHeartbeats 4000000 in
set_option maxRecDepth 100000 in
theorem c_X1_childFor  (l : Launch) (D : va_G) (cT : Nat → ClassId) (p0 : Nat) (q1 : Int32) (σ : sw_S) {r : Int32} (h : f_X1_childFor p0 q1 σ = some r) : sw_M l D cT yX1_childFor cX1_childFor 3 (some .int) 0 0 0 0 σ [P_ (some p0), I_ q1] (some (I_ r)) σ := by
  refine sw_met_i (by decide) (Nat.le_of_ble_eq_true rfl) (fun p e s m args below meth c A Q K hnm hT => ?_)
  have hce : 0 + 0 ≤ 0 := Nat.le_of_ble_eq_true rfl
  have hsl : 0 + 0 ≤ 0 := Nat.le_of_ble_eq_true rfl
  unfold f_X1_childFor at h
  change sw_G p l e (sw_R 0 0 0 0) s m args below meth c Q 3 A D cT σ 0 0 0 [(0, P_ (some p0)), (1, I_ q1)] []
  refine g_iconst (pc := 0) (v := 0) K dX1_childFor_0 (by decide) ?_
  refine g_istore_n (pc := 1) K [(2, I_ 0), (0, P_ (some p0)), (1, I_ q1)] rfl (by decide) rfl dX1_childFor_1 ?_
  refine g_sub K [1, 2, 0] rfl ?_
  exact wl_X1_childFor_2 K hT  1000 _ _ _ _ _ h (by omega) (by omega)

def f_X1_copySlot (p0 : Nat) (q1 : Int32) (q2 : Nat) (q3 : Int32) (σ : sw_S) : Option sw_S :=
  (sw_gR 1 q2 1 σ).bind fun r1 =>
  (sw_gR 1 p0 1 σ).bind fun r3 =>
  r3.bind fun a5 =>
  (sw_al 0 a5 q1 σ).bind fun x7 =>
  r1.bind fun a8 =>
  (sw_as 0 a8 q3 x7 σ).bind fun σ10 =>
  (sw_gR 1 q2 2 σ10).bind fun r11 =>
  (sw_gR 1 p0 2 σ10).bind fun r13 =>
  r13.bind fun a15 =>
  (sw_al 0 a15 q1 σ10).bind fun x17 =>
  r11.bind fun a18 =>
  (sw_as 0 a18 q3 x17 σ10).bind fun σ20 =>
  (sw_gR 1 q2 3 σ20).bind fun r21 =>
  (sw_gR 1 p0 3 σ20).bind fun r23 =>
  r23.bind fun a25 =>
  (sw_ql a25 q1 σ20).bind fun r27 =>
  r21.bind fun a28 =>
  (sw_qs a28 q3 r27 σ20).bind fun σ30 =>
  some σ30
set_option maxHeartbeats 4000000 in
set_option maxRecDepth 100000 in
theorem c_X1_copySlot  (l : Launch) (D : va_G) (cT : Nat → ClassId) (p0 : Nat) (q1 : Int32) (q2 : Nat) (q3 : Int32) (σ : sw_S) {σ' : sw_S} (h : f_X1_copySlot p0 q1 q2 q3 σ = some σ') : sw_M l D cT yX1_copySlot cX1_copySlot 4 none 0 0 0 0 σ [P_ (some p0), I_ q1, P_ (some q2), I_ q3] none σ' := by
  refine sw_met_v (by decide) (Nat.le_of_ble_eq_true rfl) (fun p e s m args below meth c A Q K hnm hT => ?_)
  have hce : 0 + 0 ≤ 0 := Nat.le_of_ble_eq_true rfl
  have hsl : 0 + 0 ≤ 0 := Nat.le_of_ble_eq_true rfl
  unfold f_X1_copySlot at h
  change sw_G p l e (sw_R 0 0 0 0) s m args below meth c Q 4 A D cT σ 0 0 0 [(0, P_ (some p0)), (1, I_ q1), (2, P_ (some q2)), (3, I_ q3)] []
  refine g_aload_n (pc := 0) K 2 rfl rfl dX1_copySlot_0 ?_
  replace h := Option.bind_eq_some_iff.mp h
  obtain ⟨r1, e2, h⟩ := h
  refine g_getR (pc := 1) K cl_1 hin_X1 (k := 1) (by decide) tb_35 rfl e2 dX1_copySlot_1 ?_
  refine g_iload_n (pc := 4) K 3 rfl rfl dX1_copySlot_4 ?_
  refine g_aload_n (pc := 5) K 0 rfl rfl dX1_copySlot_5 ?_
  replace h := Option.bind_eq_some_iff.mp h
  obtain ⟨r3, e4, h⟩ := h
  refine g_getR (pc := 6) K cl_1 hin_X1 (k := 1) (by decide) tb_35 rfl e4 dX1_copySlot_6 ?_
  refine g_iload_n (pc := 9) K 1 rfl rfl dX1_copySlot_9 ?_
  replace h := Option.bind_eq_some_iff.mp h
  obtain ⟨a5, rfl, h⟩ := h
  replace h := Option.bind_eq_some_iff.mp h
  obtain ⟨x7, e6, h⟩ := h
  refine g_iald (pc := 10) K e6 dX1_copySlot_10 ?_
  replace h := Option.bind_eq_some_iff.mp h
  obtain ⟨a8, rfl, h⟩ := h
  replace h := Option.bind_eq_some_iff.mp h
  obtain ⟨σ10, e9, h⟩ := h
  refine g_iast (pc := 11) K e9 dX1_copySlot_11 ?_
  refine g_aload_n (pc := 12) K 2 rfl rfl dX1_copySlot_12 ?_
  replace h := Option.bind_eq_some_iff.mp h
  obtain ⟨r11, e12, h⟩ := h
  refine g_getR (pc := 13) K cl_1 hin_X1 (k := 2) (by decide) tb_38 rfl e12 dX1_copySlot_13 ?_
  refine g_iload_n (pc := 16) K 3 rfl rfl dX1_copySlot_16 ?_
  refine g_aload_n (pc := 17) K 0 rfl rfl dX1_copySlot_17 ?_
  replace h := Option.bind_eq_some_iff.mp h
  obtain ⟨r13, e14, h⟩ := h
  refine g_getR (pc := 18) K cl_1 hin_X1 (k := 2) (by decide) tb_38 rfl e14 dX1_copySlot_18 ?_
  refine g_iload_n (pc := 21) K 1 rfl rfl dX1_copySlot_21 ?_
  replace h := Option.bind_eq_some_iff.mp h
  obtain ⟨a15, rfl, h⟩ := h
  replace h := Option.bind_eq_some_iff.mp h
  obtain ⟨x17, e16, h⟩ := h
  refine g_iald (pc := 22) K e16 dX1_copySlot_22 ?_
  replace h := Option.bind_eq_some_iff.mp h
  obtain ⟨a18, rfl, h⟩ := h
  replace h := Option.bind_eq_some_iff.mp h
  obtain ⟨σ20, e19, h⟩ := h
  refine g_iast (pc := 23) K e19 dX1_copySlot_23 ?_
  refine g_aload_n (pc := 24) K 2 rfl rfl dX1_copySlot_24 ?_
  replace h := Option.bind_eq_some_iff.mp h
  obtain ⟨r21, e22, h⟩ := h
  refine g_getR (pc := 25) K cl_1 hin_X1 (k := 3) (by decide) tb_41 rfl e22 dX1_copySlot_25 ?_
  refine g_iload_n (pc := 28) K 3 rfl rfl dX1_copySlot_28 ?_
  refine g_aload_n (pc := 29) K 0 rfl rfl dX1_copySlot_29 ?_
  replace h := Option.bind_eq_some_iff.mp h
  obtain ⟨r23, e24, h⟩ := h
  refine g_getR (pc := 30) K cl_1 hin_X1 (k := 3) (by decide) tb_41 rfl e24 dX1_copySlot_30 ?_
  refine g_iload_n (pc := 33) K 1 rfl rfl dX1_copySlot_33 ?_
  replace h := Option.bind_eq_some_iff.mp h
  obtain ⟨a25, rfl, h⟩ := h
  replace h := Option.bind_eq_some_iff.mp h
  obtain ⟨r27, e26, h⟩ := h
  refine g_qald (pc := 34) K e26 dX1_copySlot_34 ?_
  replace h := Option.bind_eq_some_iff.mp h
  obtain ⟨a28, rfl, h⟩ := h
  replace h := Option.bind_eq_some_iff.mp h
  obtain ⟨σ30, e29, h⟩ := h
  refine g_qast (pc := 35) K e29 dX1_copySlot_35 ?_
  cases h
  exact hT _ _ 36 _ (by omega) (by omega) dX1_copySlot_36

def B_X1_openSlot_5 (rec5 : Nat → Int32 → Int32 → sw_S → Option sw_S) (v0 : Nat) (v1 : Int32) (v2 : Int32) (σ : sw_S) : Option sw_S :=
  (if v2 ≤ v1 then
  (sw_gI 1 v0 4 σ).bind fun x2 =>
  (sw_pt 1 v0 4 (.int ((x2 + 1))) σ).bind fun σ4 =>
  some σ4
  else
  (sw_ob 1 v0 σ).bind fun f6 =>
  (f_X1_copySlot v0 ((v2 - 1)) v0 v2 σ).bind fun σ9 =>
  rec5 v0 v1 ((v2 + (-1))) σ9)
set_option maxHeartbeats 4000000 in
set_option maxRecDepth 100000 in
theorem wB_X1_openSlot_5 {p : Program} {l : Launch} {e : Env} {s : State} {m : MethodId} {args : Array Value} {below : List Frame} {meth : Method} {c : Code} {Q : State → Prop} {A : Nat → Prop} {D : va_G} {cT : Nat → ClassId} {σ' : sw_S}  (K : sw_C p s m args c cX1_openSlot 3 RX1 A D cT) (hT : sw_Tv cX1_openSlot p l e (sw_R 1 0 0 23) s m args below meth c Q 3 A D cT 0 0 σ') {rec5 : Nat → Int32 → Int32 → sw_S → Option sw_S} (hrec5 : ∀ (v0 : Nat) (v1 : Int32) (v2 : Int32) (σ : sw_S) (ce sl : Nat), rec5 v0 v1 v2 σ = some σ' → ce + (0) ≤ 0 → sl + (0) ≤ 0 → sw_G p l e (sw_R 1 0 0 23) s m args below meth c Q 3 A D cT σ ce sl 5 [(0, P_ (some v0)), (1, I_ v1), (2, I_ v2)] []) (v0 : Nat) (v1 : Int32) (v2 : Int32) (σ : sw_S)  (ce sl : Nat) (h : B_X1_openSlot_5 rec5 v0 v1 v2 σ = some σ') (hce : ce + (0) ≤ 0) (hsl : sl + (0) ≤ 0) : sw_G p l e (sw_R 1 0 0 23) s m args below meth c Q 3 A D cT σ ce sl 5 [(0, P_ (some v0)), (1, I_ v1), (2, I_ v2)] [] := by
  unfold B_X1_openSlot_5 at h
  refine g_iload_n (pc := 5) K 2 rfl rfl dX1_openSlot_5 ?_
  refine g_iload_n (pc := 6) K 1 rfl rfl dX1_openSlot_6 ?_
  refine g_icmp_le (pc := 7) K 25 dX1_openSlot_7 (by decide) (fun c1 => ?_) (fun c1 => ?_)
  · replace h := (if_pos c1).symm.trans h
    refine g_aload_n (pc := 25) K 0 rfl rfl dX1_openSlot_25 ?_
    refine g_dup (pc := 26) K rfl dX1_openSlot_26 ?_
    replace h := Option.bind_eq_some_iff.mp h
    obtain ⟨x2, e3, h⟩ := h
    refine g_getI (pc := 27) K cl_1 hin_X1 (k := 4) (by decide) tb_44 rfl e3 dX1_openSlot_27 ?_
    refine g_iconst (pc := 30) (v := 1) K dX1_openSlot_30 (by decide) ?_
    refine g_iadd (pc := 31) K dX1_openSlot_31 ?_
    replace h := Option.bind_eq_some_iff.mp h
    obtain ⟨σ4, e5, h⟩ := h
    refine g_put (pc := 32) K cl_1 hin_X1 (k := 4) (by decide) tb_44 rfl tyX1 tyX1_ok nmX1 (Or.inl rfl) rfl rfl e5 dX1_openSlot_32 ?_
    cases h
    exact hT _ _ 35 _ (by omega) (by omega) dX1_openSlot_35
  · replace h := (if_neg c1).symm.trans h
    refine g_aload_n (pc := 10) K 0 rfl rfl dX1_openSlot_10 ?_
    refine g_iload_n (pc := 11) K 2 rfl rfl dX1_openSlot_11 ?_
    refine g_iconst (pc := 12) (v := 1) K dX1_openSlot_12 (by decide) ?_
    refine g_isub (pc := 13) K dX1_openSlot_13 ?_
    refine g_aload_n (pc := 14) K 0 rfl rfl dX1_openSlot_14 ?_
    refine g_iload_n (pc := 15) K 2 rfl rfl dX1_openSlot_15 ?_
    replace h := Option.bind_eq_some_iff.mp h
    obtain ⟨f6, e7, h⟩ := h
    replace h := Option.bind_eq_some_iff.mp h
    obtain ⟨σ9, e8, h⟩ := h
    refine g_callV (pc := 16) (st := []) K [I_ ((v2 - 1)), P_ (some v0), I_ v2] (c_X1_copySlot _ _ _ _ _ _ _ _ e8) e7 cl_1 rfl tb_231 tb_228 tb_3 tb_229 tb_230 hd_X1_copySlot ⟨Nat.le_of_ble_eq_true rfl, Nat.le_of_ble_eq_true rfl⟩ rfl (sw_rm (Nat.le_of_ble_eq_true rfl)) ⟨by show _ ≤ 0; omega, by show _ ≤ 0; omega⟩ dX1_openSlot_16 ?_
    refine g_iinc (pc := 19) K 2 (v2 + (-1)) [(2, I_ ((v2 + (-1)))), (0, P_ (some v0)), (1, I_ v1)] rfl (congrArg (fun z => v2 + z) (by decide : Int32.ofInt (-1) = (-1))) (by decide) rfl dX1_openSlot_19 ?_
    refine g_goto (pc := 22) (tgt := 5) K dX1_openSlot_22 (by decide) ?_
    refine g_sub K [1, 2, 0] rfl ?_
    exact hrec5 _ _ _ _ _ _ h (by omega) (by omega)
def b_X1_openSlot_5  : Nat → Nat → Int32 → Int32 → sw_S → Option sw_S
  | 0 => fun _ _ _ _ => none
  | n + 1 => B_X1_openSlot_5 (b_X1_openSlot_5  n)
theorem wl_X1_openSlot_5 {p : Program} {l : Launch} {e : Env} {s : State} {m : MethodId} {args : Array Value} {below : List Frame} {meth : Method} {c : Code} {Q : State → Prop} {A : Nat → Prop} {D : va_G} {cT : Nat → ClassId} {σ' : sw_S}  (K : sw_C p s m args c cX1_openSlot 3 RX1 A D cT) (hT : sw_Tv cX1_openSlot p l e (sw_R 1 0 0 23) s m args below meth c Q 3 A D cT 0 0 σ') : ∀ (n : Nat) (v0 : Nat) (v1 : Int32) (v2 : Int32) (σ : sw_S) (ce sl : Nat), b_X1_openSlot_5  n v0 v1 v2 σ = some σ' → ce + (0) ≤ 0 → sl + (0) ≤ 0 → sw_G p l e (sw_R 1 0 0 23) s m args below meth c Q 3 A D cT σ ce sl 5 [(0, P_ (some v0)), (1, I_ v1), (2, I_ v2)] [] := by
  intro n
  induction n with
  | zero =>
    intro v0 v1 v2 σ ce sl h
    exact absurd (show none = some σ' from h) (by simp)
  | succ n ih =>
    intro v0 v1 v2 σ ce sl h hce hsl
    exact wB_X1_openSlot_5 K hT (fun _ _ _ _ _ _ h h1 h2 => ih _ _ _ _ _ _ h h1 h2) _ _ _ _ _ _ h hce hsl
def f_X1_openSlot (p0 : Nat) (q1 : Int32) (σ : sw_S) : Option sw_S :=
  (sw_gI 1 p0 4 σ).bind fun x1 =>
  b_X1_openSlot_5 1000 p0 q1 x1 σ
set_option maxHeartbeats 4000000 in
set_option maxRecDepth 100000 in
theorem c_X1_openSlot  (l : Launch) (D : va_G) (cT : Nat → ClassId) (p0 : Nat) (q1 : Int32) (σ : sw_S) {σ' : sw_S} (h : f_X1_openSlot p0 q1 σ = some σ') : sw_M l D cT yX1_openSlot cX1_openSlot 3 none 1 23 0 0 σ [P_ (some p0), I_ q1] none σ' := by
  refine sw_met_v (by decide) (Nat.le_of_ble_eq_true rfl) (fun p e s m args below meth c A Q K hnm hT => ?_)
  have hce : 0 + 0 ≤ 0 := Nat.le_of_ble_eq_true rfl
  have hsl : 0 + 0 ≤ 0 := Nat.le_of_ble_eq_true rfl
  unfold f_X1_openSlot at h
  change sw_G p l e (sw_R 1 0 0 23) s m args below meth c Q 3 A D cT σ 0 0 0 [(0, P_ (some p0)), (1, I_ q1)] []
  refine g_aload_n (pc := 0) K 0 rfl rfl dX1_openSlot_0 ?_
  replace h := Option.bind_eq_some_iff.mp h
  obtain ⟨x1, e2, h⟩ := h
  refine g_getI (pc := 1) K cl_1 hin_X1 (k := 4) (by decide) tb_44 rfl e2 dX1_openSlot_1 ?_
  refine g_istore_n (pc := 4) K [(2, I_ x1), (0, P_ (some p0)), (1, I_ q1)] rfl (by decide) rfl dX1_openSlot_4 ?_
  refine g_sub K [1, 2, 0] rfl ?_
  exact wl_X1_openSlot_5 K hT  1000 _ _ _ _ _ _ h (by omega) (by omega)

def B_X1_closeSlot_4 (rec4 : Nat → Int32 → sw_S → Option sw_S) (v0 : Nat) (v2 : Int32) (σ : sw_S) : Option sw_S :=
  (sw_gI 1 v0 4 σ).bind fun x1 =>
  (if x1 ≤ v2 then
  (sw_gI 1 v0 4 σ).bind fun x4 =>
  (sw_pt 1 v0 4 (.int ((x4 - 1))) σ).bind fun σ6 =>
  some σ6
  else
  (sw_ob 1 v0 σ).bind fun f8 =>
  (f_X1_copySlot v0 v2 v0 ((v2 - 1)) σ).bind fun σ11 =>
  rec4 v0 ((v2 + 1)) σ11)
set_option maxHeartbeats 4000000 in
set_option maxRecDepth 100000 in
theorem wB_X1_closeSlot_4 {p : Program} {l : Launch} {e : Env} {s : State} {m : MethodId} {args : Array Value} {below : List Frame} {meth : Method} {c : Code} {Q : State → Prop} {A : Nat → Prop} {D : va_G} {cT : Nat → ClassId} {σ' : sw_S}  (K : sw_C p s m args c cX1_closeSlot 3 RX1 A D cT) (hT : sw_Tv cX1_closeSlot p l e (sw_R 1 0 0 23) s m args below meth c Q 3 A D cT 0 0 σ') {rec4 : Nat → Int32 → sw_S → Option sw_S} (hrec4 : ∀ (v0 : Nat) (v2 : Int32) (σ : sw_S) (ce sl : Nat), rec4 v0 v2 σ = some σ' → ce + (0) ≤ 0 → sl + (0) ≤ 0 → sw_G p l e (sw_R 1 0 0 23) s m args below meth c Q 3 A D cT σ ce sl 4 [(0, P_ (some v0)), (2, I_ v2)] []) (v0 : Nat) (v2 : Int32) (σ : sw_S)  (ce sl : Nat) (h : B_X1_closeSlot_4 rec4 v0 v2 σ = some σ') (hce : ce + (0) ≤ 0) (hsl : sl + (0) ≤ 0) : sw_G p l e (sw_R 1 0 0 23) s m args below meth c Q 3 A D cT σ ce sl 4 [(0, P_ (some v0)), (2, I_ v2)] [] := by
  unfold B_X1_closeSlot_4 at h
  refine g_iload_n (pc := 4) K 1 rfl rfl dX1_closeSlot_4 ?_
  refine g_aload_n (pc := 5) K 0 rfl rfl dX1_closeSlot_5 ?_
  replace h := Option.bind_eq_some_iff.mp h
  obtain ⟨x1, e2, h⟩ := h
  refine g_getI (pc := 6) K cl_1 hin_X1 (k := 4) (by decide) tb_44 rfl e2 dX1_closeSlot_6 ?_
  refine g_icmp_ge (pc := 9) K 27 dX1_closeSlot_9 (by decide) (fun c3 => ?_) (fun c3 => ?_)
  · replace h := (if_pos c3).symm.trans h
    refine g_aload_n (pc := 27) K 0 rfl rfl dX1_closeSlot_27 ?_
    refine g_dup (pc := 28) K rfl dX1_closeSlot_28 ?_
    replace h := Option.bind_eq_some_iff.mp h
    obtain ⟨x4, e5, h⟩ := h
    refine g_getI (pc := 29) K cl_1 hin_X1 (k := 4) (by decide) tb_44 rfl e5 dX1_closeSlot_29 ?_
    refine g_iconst (pc := 32) (v := 1) K dX1_closeSlot_32 (by decide) ?_
    refine g_isub (pc := 33) K dX1_closeSlot_33 ?_
    replace h := Option.bind_eq_some_iff.mp h
    obtain ⟨σ6, e7, h⟩ := h
    refine g_put (pc := 34) K cl_1 hin_X1 (k := 4) (by decide) tb_44 rfl tyX1 tyX1_ok nmX1 (Or.inl rfl) rfl rfl e7 dX1_closeSlot_34 ?_
    cases h
    exact hT _ _ 37 _ (by omega) (by omega) dX1_closeSlot_37
  · replace h := (if_neg c3).symm.trans h
    refine g_aload_n (pc := 12) K 0 rfl rfl dX1_closeSlot_12 ?_
    refine g_iload_n (pc := 13) K 1 rfl rfl dX1_closeSlot_13 ?_
    refine g_aload_n (pc := 14) K 0 rfl rfl dX1_closeSlot_14 ?_
    refine g_iload_n (pc := 15) K 1 rfl rfl dX1_closeSlot_15 ?_
    refine g_iconst (pc := 16) (v := 1) K dX1_closeSlot_16 (by decide) ?_
    refine g_isub (pc := 17) K dX1_closeSlot_17 ?_
    replace h := Option.bind_eq_some_iff.mp h
    obtain ⟨f8, e9, h⟩ := h
    replace h := Option.bind_eq_some_iff.mp h
    obtain ⟨σ11, e10, h⟩ := h
    refine g_callV (pc := 18) (st := []) K [I_ v2, P_ (some v0), I_ ((v2 - 1))] (c_X1_copySlot _ _ _ _ _ _ _ _ e10) e9 cl_1 rfl tb_231 tb_228 tb_3 tb_229 tb_230 hd_X1_copySlot ⟨Nat.le_of_ble_eq_true rfl, Nat.le_of_ble_eq_true rfl⟩ rfl (sw_rm (Nat.le_of_ble_eq_true rfl)) ⟨by show _ ≤ 0; omega, by show _ ≤ 0; omega⟩ dX1_closeSlot_18 ?_
    refine g_iinc (pc := 21) K 1 (v2 + 1) [(2, I_ ((v2 + 1))), (0, P_ (some v0))] rfl rfl (by decide) rfl dX1_closeSlot_21 ?_
    refine g_goto (pc := 24) (tgt := 4) K dX1_closeSlot_24 (by decide) ?_
    refine g_sub K [1, 0] rfl ?_
    exact hrec4 _ _ _ _ _ h (by omega) (by omega)
def b_X1_closeSlot_4  : Nat → Nat → Int32 → sw_S → Option sw_S
  | 0 => fun _ _ _ => none
  | n + 1 => B_X1_closeSlot_4 (b_X1_closeSlot_4  n)
theorem wl_X1_closeSlot_4 {p : Program} {l : Launch} {e : Env} {s : State} {m : MethodId} {args : Array Value} {below : List Frame} {meth : Method} {c : Code} {Q : State → Prop} {A : Nat → Prop} {D : va_G} {cT : Nat → ClassId} {σ' : sw_S}  (K : sw_C p s m args c cX1_closeSlot 3 RX1 A D cT) (hT : sw_Tv cX1_closeSlot p l e (sw_R 1 0 0 23) s m args below meth c Q 3 A D cT 0 0 σ') : ∀ (n : Nat) (v0 : Nat) (v2 : Int32) (σ : sw_S) (ce sl : Nat), b_X1_closeSlot_4  n v0 v2 σ = some σ' → ce + (0) ≤ 0 → sl + (0) ≤ 0 → sw_G p l e (sw_R 1 0 0 23) s m args below meth c Q 3 A D cT σ ce sl 4 [(0, P_ (some v0)), (2, I_ v2)] [] := by
  intro n
  induction n with
  | zero =>
    intro v0 v2 σ ce sl h
    exact absurd (show none = some σ' from h) (by simp)
  | succ n ih =>
    intro v0 v2 σ ce sl h hce hsl
    exact wB_X1_closeSlot_4 K hT (fun _ _ _ _ _ h h1 h2 => ih _ _ _ _ _ h h1 h2) _ _ _ _ _ h hce hsl
def f_X1_closeSlot (p0 : Nat) (q1 : Int32) (σ : sw_S) : Option sw_S :=
  b_X1_closeSlot_4 1000 p0 ((q1 + 1)) σ
set_option maxHeartbeats 4000000 in
set_option maxRecDepth 100000 in
theorem c_X1_closeSlot  (l : Launch) (D : va_G) (cT : Nat → ClassId) (p0 : Nat) (q1 : Int32) (σ : sw_S) {σ' : sw_S} (h : f_X1_closeSlot p0 q1 σ = some σ') : sw_M l D cT yX1_closeSlot cX1_closeSlot 3 none 1 23 0 0 σ [P_ (some p0), I_ q1] none σ' := by
  refine sw_met_v (by decide) (Nat.le_of_ble_eq_true rfl) (fun p e s m args below meth c A Q K hnm hT => ?_)
  have hce : 0 + 0 ≤ 0 := Nat.le_of_ble_eq_true rfl
  have hsl : 0 + 0 ≤ 0 := Nat.le_of_ble_eq_true rfl
  unfold f_X1_closeSlot at h
  change sw_G p l e (sw_R 1 0 0 23) s m args below meth c Q 3 A D cT σ 0 0 0 [(0, P_ (some p0)), (1, I_ q1)] []
  refine g_iload_n (pc := 0) K 1 rfl rfl dX1_closeSlot_0 ?_
  refine g_iconst (pc := 1) (v := 1) K dX1_closeSlot_1 (by decide) ?_
  refine g_iadd (pc := 2) K dX1_closeSlot_2 ?_
  refine g_istore_n (pc := 3) K [(2, I_ ((q1 + 1))), (0, P_ (some p0)), (1, I_ q1)] rfl (by decide) rfl dX1_closeSlot_3 ?_
  refine g_sub K [1, 0] rfl ?_
  exact wl_X1_closeSlot_4 K hT  1000 _ _ _ _ _ h (by omega) (by omega)

def f_X1_moveSlot (p0 : Nat) (q1 : Int32) (q2 : Nat) (q3 : Int32) (σ : sw_S) : Option sw_S :=
  (sw_ob 1 q2 σ).bind fun f1 =>
  (f_X1_openSlot q2 q3 σ).bind fun σ4 =>
  (sw_ob 1 p0 σ4).bind fun f5 =>
  (f_X1_copySlot p0 q1 q2 q3 σ4).bind fun σ8 =>
  (sw_ob 1 p0 σ8).bind fun f9 =>
  (f_X1_closeSlot p0 q1 σ8).bind fun σ12 =>
  some σ12
set_option maxHeartbeats 4000000 in
set_option maxRecDepth 100000 in
theorem c_X1_moveSlot  (l : Launch) (D : va_G) (cT : Nat → ClassId) (p0 : Nat) (q1 : Int32) (q2 : Nat) (q3 : Int32) (σ : sw_S) {σ' : sw_S} (h : f_X1_moveSlot p0 q1 q2 q3 σ = some σ') : sw_M l D cT yX1_moveSlot cX1_moveSlot 4 none 2 45 0 0 σ [P_ (some p0), I_ q1, P_ (some q2), I_ q3] none σ' := by
  refine sw_met_v (by decide) (Nat.le_of_ble_eq_true rfl) (fun p e s m args below meth c A Q K hnm hT => ?_)
  have hce : 0 + 0 ≤ 0 := Nat.le_of_ble_eq_true rfl
  have hsl : 0 + 0 ≤ 0 := Nat.le_of_ble_eq_true rfl
  unfold f_X1_moveSlot at h
  change sw_G p l e (sw_R 2 0 0 45) s m args below meth c Q 4 A D cT σ 0 0 0 [(0, P_ (some p0)), (1, I_ q1), (2, P_ (some q2)), (3, I_ q3)] []
  refine g_aload_n (pc := 0) K 2 rfl rfl dX1_moveSlot_0 ?_
  refine g_iload_n (pc := 1) K 3 rfl rfl dX1_moveSlot_1 ?_
  replace h := Option.bind_eq_some_iff.mp h
  obtain ⟨f1, e2, h⟩ := h
  replace h := Option.bind_eq_some_iff.mp h
  obtain ⟨σ4, e3, h⟩ := h
  refine g_callV (pc := 2) (st := []) K [I_ q3] (c_X1_openSlot _ _ _ _ _ _ e3) e2 cl_1 rfl tb_227 tb_272 tb_3 tb_225 tb_226 hd_X1_openSlot ⟨Nat.le_of_ble_eq_true rfl, Nat.le_of_ble_eq_true rfl⟩ rfl (sw_rm (Nat.le_of_ble_eq_true rfl)) ⟨by show _ ≤ 0; omega, by show _ ≤ 0; omega⟩ dX1_moveSlot_2 ?_
  refine g_aload_n (pc := 5) K 0 rfl rfl dX1_moveSlot_5 ?_
  refine g_iload_n (pc := 6) K 1 rfl rfl dX1_moveSlot_6 ?_
  refine g_aload_n (pc := 7) K 2 rfl rfl dX1_moveSlot_7 ?_
  refine g_iload_n (pc := 8) K 3 rfl rfl dX1_moveSlot_8 ?_
  replace h := Option.bind_eq_some_iff.mp h
  obtain ⟨f5, e6, h⟩ := h
  replace h := Option.bind_eq_some_iff.mp h
  obtain ⟨σ8, e7, h⟩ := h
  refine g_callV (pc := 9) (st := []) K [I_ q1, P_ (some q2), I_ q3] (c_X1_copySlot _ _ _ _ _ _ _ _ e7) e6 cl_1 rfl tb_231 tb_228 tb_3 tb_229 tb_230 hd_X1_copySlot ⟨Nat.le_of_ble_eq_true rfl, Nat.le_of_ble_eq_true rfl⟩ rfl (sw_rm (Nat.le_of_ble_eq_true rfl)) ⟨by show _ ≤ 0; omega, by show _ ≤ 0; omega⟩ dX1_moveSlot_9 ?_
  refine g_aload_n (pc := 12) K 0 rfl rfl dX1_moveSlot_12 ?_
  refine g_iload_n (pc := 13) K 1 rfl rfl dX1_moveSlot_13 ?_
  replace h := Option.bind_eq_some_iff.mp h
  obtain ⟨f9, e10, h⟩ := h
  replace h := Option.bind_eq_some_iff.mp h
  obtain ⟨σ12, e11, h⟩ := h
  refine g_callV (pc := 14) (st := []) K [I_ q1] (c_X1_closeSlot _ _ _ _ _ _ e11) e10 cl_1 rfl tb_259 tb_273 tb_3 tb_257 tb_258 hd_X1_closeSlot ⟨Nat.le_of_ble_eq_true rfl, Nat.le_of_ble_eq_true rfl⟩ rfl (sw_rm (Nat.le_of_ble_eq_true rfl)) ⟨by show _ ≤ 0; omega, by show _ ≤ 0; omega⟩ dX1_moveSlot_14 ?_
  cases h
  exact hT _ _ 17 _ (by omega) (by omega) dX1_moveSlot_17

def B_X1_moveTail_2 (rec2 : Nat → Int32 → Nat → Int32 → sw_S → Option sw_S) (v0 : Nat) (v1 : Int32) (v2 : Nat) (v3 : Int32) (σ : sw_S) : Option sw_S :=
  (sw_gI 1 v0 4 σ).bind fun x1 =>
  (if x1 ≤ v3 then
  (sw_pt 1 v0 4 (.int v1) σ).bind fun σ4 =>
  some σ4
  else
  (sw_gI 1 v2 4 σ).bind fun x6 =>
  (sw_ob 1 v0 σ).bind fun f8 =>
  (f_X1_copySlot v0 v3 v2 x6 σ).bind fun σ11 =>
  (sw_gI 1 v2 4 σ11).bind fun x12 =>
  (sw_pt 1 v2 4 (.int ((x12 + 1))) σ11).bind fun σ14 =>
  rec2 v0 v1 v2 ((v3 + 1)) σ14)
set_option maxHeartbeats 4000000 in
set_option maxRecDepth 100000 in
theorem wB_X1_moveTail_2 {p : Program} {l : Launch} {e : Env} {s : State} {m : MethodId} {args : Array Value} {below : List Frame} {meth : Method} {c : Code} {Q : State → Prop} {A : Nat → Prop} {D : va_G} {cT : Nat → ClassId} {σ' : sw_S}  (K : sw_C p s m args c cX1_moveTail 4 RX1 A D cT) (hT : sw_Tv cX1_moveTail p l e (sw_R 1 0 0 23) s m args below meth c Q 4 A D cT 0 0 σ') {rec2 : Nat → Int32 → Nat → Int32 → sw_S → Option sw_S} (hrec2 : ∀ (v0 : Nat) (v1 : Int32) (v2 : Nat) (v3 : Int32) (σ : sw_S) (ce sl : Nat), rec2 v0 v1 v2 v3 σ = some σ' → ce + (0) ≤ 0 → sl + (0) ≤ 0 → sw_G p l e (sw_R 1 0 0 23) s m args below meth c Q 4 A D cT σ ce sl 2 [(0, P_ (some v0)), (1, I_ v1), (2, P_ (some v2)), (3, I_ v3)] []) (v0 : Nat) (v1 : Int32) (v2 : Nat) (v3 : Int32) (σ : sw_S)  (ce sl : Nat) (h : B_X1_moveTail_2 rec2 v0 v1 v2 v3 σ = some σ') (hce : ce + (0) ≤ 0) (hsl : sl + (0) ≤ 0) : sw_G p l e (sw_R 1 0 0 23) s m args below meth c Q 4 A D cT σ ce sl 2 [(0, P_ (some v0)), (1, I_ v1), (2, P_ (some v2)), (3, I_ v3)] [] := by
  unfold B_X1_moveTail_2 at h
  refine g_iload_n (pc := 2) K 3 rfl rfl dX1_moveTail_2 ?_
  refine g_aload_n (pc := 3) K 0 rfl rfl dX1_moveTail_3 ?_
  replace h := Option.bind_eq_some_iff.mp h
  obtain ⟨x1, e2, h⟩ := h
  refine g_getI (pc := 4) K cl_1 hin_X1 (k := 4) (by decide) tb_44 rfl e2 dX1_moveTail_4 ?_
  refine g_icmp_ge (pc := 7) K 36 dX1_moveTail_7 (by decide) (fun c3 => ?_) (fun c3 => ?_)
  · replace h := (if_pos c3).symm.trans h
    refine g_aload_n (pc := 36) K 0 rfl rfl dX1_moveTail_36 ?_
    refine g_iload_n (pc := 37) K 1 rfl rfl dX1_moveTail_37 ?_
    replace h := Option.bind_eq_some_iff.mp h
    obtain ⟨σ4, e5, h⟩ := h
    refine g_put (pc := 38) K cl_1 hin_X1 (k := 4) (by decide) tb_44 rfl tyX1 tyX1_ok nmX1 (Or.inl rfl) rfl rfl e5 dX1_moveTail_38 ?_
    cases h
    exact hT _ _ 41 _ (by omega) (by omega) dX1_moveTail_41
  · replace h := (if_neg c3).symm.trans h
    refine g_aload_n (pc := 10) K 0 rfl rfl dX1_moveTail_10 ?_
    refine g_iload_n (pc := 11) K 3 rfl rfl dX1_moveTail_11 ?_
    refine g_aload_n (pc := 12) K 2 rfl rfl dX1_moveTail_12 ?_
    refine g_aload_n (pc := 13) K 2 rfl rfl dX1_moveTail_13 ?_
    replace h := Option.bind_eq_some_iff.mp h
    obtain ⟨x6, e7, h⟩ := h
    refine g_getI (pc := 14) K cl_1 hin_X1 (k := 4) (by decide) tb_44 rfl e7 dX1_moveTail_14 ?_
    replace h := Option.bind_eq_some_iff.mp h
    obtain ⟨f8, e9, h⟩ := h
    replace h := Option.bind_eq_some_iff.mp h
    obtain ⟨σ11, e10, h⟩ := h
    refine g_callV (pc := 17) (st := []) K [I_ v3, P_ (some v2), I_ x6] (c_X1_copySlot _ _ _ _ _ _ _ _ e10) e9 cl_1 rfl tb_231 tb_228 tb_3 tb_229 tb_230 hd_X1_copySlot ⟨Nat.le_of_ble_eq_true rfl, Nat.le_of_ble_eq_true rfl⟩ rfl (sw_rm (Nat.le_of_ble_eq_true rfl)) ⟨by show _ ≤ 0; omega, by show _ ≤ 0; omega⟩ dX1_moveTail_17 ?_
    refine g_aload_n (pc := 20) K 2 rfl rfl dX1_moveTail_20 ?_
    refine g_dup (pc := 21) K rfl dX1_moveTail_21 ?_
    replace h := Option.bind_eq_some_iff.mp h
    obtain ⟨x12, e13, h⟩ := h
    refine g_getI (pc := 22) K cl_1 hin_X1 (k := 4) (by decide) tb_44 rfl e13 dX1_moveTail_22 ?_
    refine g_iconst (pc := 25) (v := 1) K dX1_moveTail_25 (by decide) ?_
    refine g_iadd (pc := 26) K dX1_moveTail_26 ?_
    replace h := Option.bind_eq_some_iff.mp h
    obtain ⟨σ14, e15, h⟩ := h
    refine g_put (pc := 27) K cl_1 hin_X1 (k := 4) (by decide) tb_44 rfl tyX1 tyX1_ok nmX1 (Or.inl rfl) rfl rfl e15 dX1_moveTail_27 ?_
    refine g_iinc (pc := 30) K 3 (v3 + 1) [(3, I_ ((v3 + 1))), (0, P_ (some v0)), (1, I_ v1), (2, P_ (some v2))] rfl rfl (by decide) rfl dX1_moveTail_30 ?_
    refine g_goto (pc := 33) (tgt := 2) K dX1_moveTail_33 (by decide) ?_
    refine g_sub K [1, 2, 3, 0] rfl ?_
    exact hrec2 _ _ _ _ _ _ _ h (by omega) (by omega)
def b_X1_moveTail_2  : Nat → Nat → Int32 → Nat → Int32 → sw_S → Option sw_S
  | 0 => fun _ _ _ _ _ => none
  | n + 1 => B_X1_moveTail_2 (b_X1_moveTail_2  n)
theorem wl_X1_moveTail_2 {p : Program} {l : Launch} {e : Env} {s : State} {m : MethodId} {args : Array Value} {below : List Frame} {meth : Method} {c : Code} {Q : State → Prop} {A : Nat → Prop} {D : va_G} {cT : Nat → ClassId} {σ' : sw_S}  (K : sw_C p s m args c cX1_moveTail 4 RX1 A D cT) (hT : sw_Tv cX1_moveTail p l e (sw_R 1 0 0 23) s m args below meth c Q 4 A D cT 0 0 σ') : ∀ (n : Nat) (v0 : Nat) (v1 : Int32) (v2 : Nat) (v3 : Int32) (σ : sw_S) (ce sl : Nat), b_X1_moveTail_2  n v0 v1 v2 v3 σ = some σ' → ce + (0) ≤ 0 → sl + (0) ≤ 0 → sw_G p l e (sw_R 1 0 0 23) s m args below meth c Q 4 A D cT σ ce sl 2 [(0, P_ (some v0)), (1, I_ v1), (2, P_ (some v2)), (3, I_ v3)] [] := by
  intro n
  induction n with
  | zero =>
    intro v0 v1 v2 v3 σ ce sl h
    exact absurd (show none = some σ' from h) (by simp)
  | succ n ih =>
    intro v0 v1 v2 v3 σ ce sl h hce hsl
    exact wB_X1_moveTail_2 K hT (fun _ _ _ _ _ _ _ h h1 h2 => ih _ _ _ _ _ _ _ h h1 h2) _ _ _ _ _ _ _ h hce hsl
def f_X1_moveTail (p0 : Nat) (q1 : Int32) (q2 : Nat) (σ : sw_S) : Option sw_S :=
  b_X1_moveTail_2 1000 p0 q1 q2 q1 σ
set_option maxHeartbeats 4000000 in
set_option maxRecDepth 100000 in
theorem c_X1_moveTail  (l : Launch) (D : va_G) (cT : Nat → ClassId) (p0 : Nat) (q1 : Int32) (q2 : Nat) (σ : sw_S) {σ' : sw_S} (h : f_X1_moveTail p0 q1 q2 σ = some σ') : sw_M l D cT yX1_moveTail cX1_moveTail 4 none 1 23 0 0 σ [P_ (some p0), I_ q1, P_ (some q2)] none σ' := by
  refine sw_met_v (by decide) (Nat.le_of_ble_eq_true rfl) (fun p e s m args below meth c A Q K hnm hT => ?_)
  have hce : 0 + 0 ≤ 0 := Nat.le_of_ble_eq_true rfl
  have hsl : 0 + 0 ≤ 0 := Nat.le_of_ble_eq_true rfl
  unfold f_X1_moveTail at h
  change sw_G p l e (sw_R 1 0 0 23) s m args below meth c Q 4 A D cT σ 0 0 0 [(0, P_ (some p0)), (1, I_ q1), (2, P_ (some q2))] []
  refine g_iload_n (pc := 0) K 1 rfl rfl dX1_moveTail_0 ?_
  refine g_istore_n (pc := 1) K [(3, I_ q1), (0, P_ (some p0)), (1, I_ q1), (2, P_ (some q2))] rfl (by decide) rfl dX1_moveTail_1 ?_
  refine g_sub K [1, 2, 3, 0] rfl ?_
  exact wl_X1_moveTail_2 K hT  1000 _ _ _ _ _ _ _ h (by omega) (by omega)

def b_X1_renew_163 (σ : sw_S) : Option sw_S :=
  some σ
set_option maxHeartbeats 4000000 in
set_option maxRecDepth 100000 in
theorem w_X1_renew_163 {p : Program} {l : Launch} {e : Env} {s : State} {m : MethodId} {args : Array Value} {below : List Frame} {meth : Method} {c : Code} {Q : State → Prop} {A : Nat → Prop} {D : va_G} {cT : Nat → ClassId} {σ' : sw_S}  (K : sw_C p s m args c cX1_renew 5 RX1 A D cT) (hT : sw_Tv cX1_renew p l e (sw_R 1 0 0 22) s m args below meth c Q 5 A D cT 0 0 σ') (σ : sw_S)  (ce sl : Nat) (h : b_X1_renew_163  σ = some σ') (hce : ce + (0) ≤ 0) (hsl : sl + (0) ≤ 0) : sw_G p l e (sw_R 1 0 0 22) s m args below meth c Q 5 A D cT σ ce sl 163 [] [] := by
  unfold b_X1_renew_163 at h
  cases h
  exact hT _ _ 163 _ (by omega) (by omega) dX1_renew_163
def b_X1_renew_160 (t0 : Int32) (t1 : Nat) (σ : sw_S) : Option sw_S :=
  (sw_pt 1 t1 5 (.int t0) σ).bind fun σ1 =>
  b_X1_renew_163 σ1
set_option maxHeartbeats 4000000 in
set_option maxRecDepth 100000 in
theorem w_X1_renew_160 {p : Program} {l : Launch} {e : Env} {s : State} {m : MethodId} {args : Array Value} {below : List Frame} {meth : Method} {c : Code} {Q : State → Prop} {A : Nat → Prop} {D : va_G} {cT : Nat → ClassId} {σ' : sw_S}  (K : sw_C p s m args c cX1_renew 5 RX1 A D cT) (hT : sw_Tv cX1_renew p l e (sw_R 1 0 0 22) s m args below meth c Q 5 A D cT 0 0 σ') (t0 : Int32) (t1 : Nat) (σ : sw_S)  (ce sl : Nat) (h : b_X1_renew_160 t0 t1 σ = some σ') (hce : ce + (0) ≤ 0) (hsl : sl + (0) ≤ 0) : sw_G p l e (sw_R 1 0 0 22) s m args below meth c Q 5 A D cT σ ce sl 160 [] [I_ t0, P_ (some t1)] := by
  unfold b_X1_renew_160 at h
  replace h := Option.bind_eq_some_iff.mp h
  obtain ⟨σ1, e2, h⟩ := h
  refine g_put (pc := 160) K cl_1 hin_X1 (k := 5) (by decide) tb_47 rfl tyX1 tyX1_ok nmX1 (Or.inl rfl) rfl rfl e2 dX1_renew_160 ?_
  refine g_sub K [] rfl ?_
  exact w_X1_renew_163 K hT   _ _ _ h (by omega) (by omega)
def b_X1_renew_111 (rec28 : Nat → Int32 → Int32 → Int32 → sw_S → Option sw_S) (v0 : Nat) (v1 : Int32) (v2 : Int32) (v3 : Int32) (σ : sw_S) : Option sw_S :=
  rec28 v0 v1 v2 ((v3 + 1)) σ
set_option maxHeartbeats 4000000 in
set_option maxRecDepth 100000 in
theorem w_X1_renew_111 {p : Program} {l : Launch} {e : Env} {s : State} {m : MethodId} {args : Array Value} {below : List Frame} {meth : Method} {c : Code} {Q : State → Prop} {A : Nat → Prop} {D : va_G} {cT : Nat → ClassId} {σ' : sw_S}  (K : sw_C p s m args c cX1_renew 5 RX1 A D cT) (hT : sw_Tv cX1_renew p l e (sw_R 1 0 0 22) s m args below meth c Q 5 A D cT 0 0 σ') {rec28 : Nat → Int32 → Int32 → Int32 → sw_S → Option sw_S} (hrec28 : ∀ (v0 : Nat) (v1 : Int32) (v2 : Int32) (v3 : Int32) (σ : sw_S) (ce sl : Nat), rec28 v0 v1 v2 v3 σ = some σ' → ce + (0) ≤ 0 → sl + (0) ≤ 0 → sw_G p l e (sw_R 1 0 0 22) s m args below meth c Q 5 A D cT σ ce sl 28 [(0, P_ (some v0)), (1, I_ v1), (2, I_ v2), (3, I_ v3)] []) (v0 : Nat) (v1 : Int32) (v2 : Int32) (v3 : Int32) (σ : sw_S)  (ce sl : Nat) (h : b_X1_renew_111 rec28 v0 v1 v2 v3 σ = some σ') (hce : ce + (0) ≤ 0) (hsl : sl + (0) ≤ 0) : sw_G p l e (sw_R 1 0 0 22) s m args below meth c Q 5 A D cT σ ce sl 111 [(0, P_ (some v0)), (1, I_ v1), (2, I_ v2), (3, I_ v3)] [] := by
  unfold b_X1_renew_111 at h
  refine g_iinc (pc := 111) K 3 (v3 + 1) [(3, I_ ((v3 + 1))), (0, P_ (some v0)), (1, I_ v1), (2, I_ v2)] rfl rfl (by decide) rfl dX1_renew_111 ?_
  refine g_goto (pc := 114) (tgt := 28) K dX1_renew_114 (by decide) ?_
  refine g_sub K [1, 2, 3, 0] rfl ?_
  exact hrec28 _ _ _ _ _ _ _ h (by omega) (by omega)
def B_X1_renew_28 (rec28 : Nat → Int32 → Int32 → Int32 → sw_S → Option sw_S) (v0 : Nat) (v1 : Int32) (v2 : Int32) (v3 : Int32) (σ : sw_S) : Option sw_S :=
  (sw_gI 1 v0 4 σ).bind fun x1 =>
  (if x1 ≤ v3 then
  (sw_pt 1 v0 7 (.int v2) σ).bind fun σ4 =>
  (sw_pt 1 v0 6 (.int v1) σ4).bind fun σ6 =>
  (sw_gI 1 v0 4 σ6).bind fun x8 =>
  (if x8 ≤ 0 then
  b_X1_renew_163 σ6
  else
  (sw_gI 1 v0 0 σ6).bind fun x11 =>
  (if x11 = 0 then
  (sw_gR 1 v0 3 σ6).bind fun r14 =>
  r14.bind fun a16 =>
  (sw_ql a16 0 σ6).bind fun r18 =>
  r18.bind fun a19 =>
  (sw_gI 1 a19 5 σ6).bind fun x20 =>
  b_X1_renew_160 x20 v0 σ6
  else
  (sw_gR 1 v0 1 σ6).bind fun r22 =>
  r22.bind fun a24 =>
  (sw_al 0 a24 0 σ6).bind fun x26 =>
  b_X1_renew_160 x26 v0 σ6))
  else
  (sw_gI 1 v0 0 σ).bind fun x27 =>
  (if x27 = 0 then
  (sw_gR 1 v0 3 σ).bind fun r30 =>
  r30.bind fun a32 =>
  (sw_ql a32 v3 σ).bind fun r34 =>
  r34.bind fun a35 =>
  (sw_gI 1 a35 5 σ).bind fun x36 =>
  (f_X7_mix v2 x36 σ).bind fun x39 =>
  (sw_gI 1 a35 7 σ).bind fun x40 =>
  (f_X7_mix x39 x40 σ).bind fun x43 =>
  (sw_gI 1 a35 6 σ).bind fun x44 =>
  (f_X7_mix x43 x44 σ).bind fun x47 =>
  (sw_gI 1 a35 6 σ).bind fun x48 =>
  b_X1_renew_111 rec28 v0 ((v1 + x48)) x47 v3 σ
  else
  (sw_gR 1 v0 1 σ).bind fun r50 =>
  r50.bind fun a52 =>
  (sw_al 0 a52 v3 σ).bind fun x54 =>
  (f_X7_mix v2 x54 σ).bind fun x56 =>
  (sw_gR 1 v0 2 σ).bind fun r57 =>
  r57.bind fun a59 =>
  (sw_al 0 a59 v3 σ).bind fun x61 =>
  (f_X7_mix x56 x61 σ).bind fun x63 =>
  b_X1_renew_111 rec28 v0 ((v1 + 1)) x63 v3 σ))
set_option maxHeartbeats 4000000 in
set_option maxRecDepth 100000 in
theorem wB_X1_renew_28 {p : Program} {l : Launch} {e : Env} {s : State} {m : MethodId} {args : Array Value} {below : List Frame} {meth : Method} {c : Code} {Q : State → Prop} {A : Nat → Prop} {D : va_G} {cT : Nat → ClassId} {σ' : sw_S}  (K : sw_C p s m args c cX1_renew 5 RX1 A D cT) (hT : sw_Tv cX1_renew p l e (sw_R 1 0 0 22) s m args below meth c Q 5 A D cT 0 0 σ') {rec28 : Nat → Int32 → Int32 → Int32 → sw_S → Option sw_S} (hrec28 : ∀ (v0 : Nat) (v1 : Int32) (v2 : Int32) (v3 : Int32) (σ : sw_S) (ce sl : Nat), rec28 v0 v1 v2 v3 σ = some σ' → ce + (0) ≤ 0 → sl + (0) ≤ 0 → sw_G p l e (sw_R 1 0 0 22) s m args below meth c Q 5 A D cT σ ce sl 28 [(0, P_ (some v0)), (1, I_ v1), (2, I_ v2), (3, I_ v3)] []) (v0 : Nat) (v1 : Int32) (v2 : Int32) (v3 : Int32) (σ : sw_S)  (ce sl : Nat) (h : B_X1_renew_28 rec28 v0 v1 v2 v3 σ = some σ') (hce : ce + (0) ≤ 0) (hsl : sl + (0) ≤ 0) : sw_G p l e (sw_R 1 0 0 22) s m args below meth c Q 5 A D cT σ ce sl 28 [(0, P_ (some v0)), (1, I_ v1), (2, I_ v2), (3, I_ v3)] [] := by
  unfold B_X1_renew_28 at h
  refine g_iload_n (pc := 28) K 3 rfl rfl dX1_renew_28 ?_
  refine g_aload_n (pc := 29) K 0 rfl rfl dX1_renew_29 ?_
  replace h := Option.bind_eq_some_iff.mp h
  obtain ⟨x1, e2, h⟩ := h
  refine g_getI (pc := 30) K cl_1 hin_X1 (k := 4) (by decide) tb_44 rfl e2 dX1_renew_30 ?_
  refine g_icmp_ge (pc := 33) K 117 dX1_renew_33 (by decide) (fun c3 => ?_) (fun c3 => ?_)
  · replace h := (if_pos c3).symm.trans h
    refine g_aload_n (pc := 117) K 0 rfl rfl dX1_renew_117 ?_
    refine g_iload_n (pc := 118) K 2 rfl rfl dX1_renew_118 ?_
    replace h := Option.bind_eq_some_iff.mp h
    obtain ⟨σ4, e5, h⟩ := h
    refine g_put (pc := 119) K cl_1 hin_X1 (k := 7) (by decide) tb_55 rfl tyX1 tyX1_ok nmX1 (Or.inl rfl) rfl rfl e5 dX1_renew_119 ?_
    refine g_aload_n (pc := 122) K 0 rfl rfl dX1_renew_122 ?_
    refine g_iload_n (pc := 123) K 1 rfl rfl dX1_renew_123 ?_
    replace h := Option.bind_eq_some_iff.mp h
    obtain ⟨σ6, e7, h⟩ := h
    refine g_put (pc := 124) K cl_1 hin_X1 (k := 6) (by decide) tb_52 rfl tyX1 tyX1_ok nmX1 (Or.inl rfl) rfl rfl e7 dX1_renew_124 ?_
    refine g_aload_n (pc := 127) K 0 rfl rfl dX1_renew_127 ?_
    replace h := Option.bind_eq_some_iff.mp h
    obtain ⟨x8, e9, h⟩ := h
    refine g_getI (pc := 128) K cl_1 hin_X1 (k := 4) (by decide) tb_44 rfl e9 dX1_renew_128 ?_
    refine g_if_le (pc := 131) K 163 dX1_renew_131 (by decide) (fun c10 => ?_) (fun c10 => ?_)
    · replace h := (if_pos c10).symm.trans h
      refine g_sub K [] rfl ?_
      exact w_X1_renew_163 K hT   _ _ _ h (by omega) (by omega)
    · replace h := (if_neg c10).symm.trans h
      refine g_aload_n (pc := 134) K 0 rfl rfl dX1_renew_134 ?_
      refine g_aload_n (pc := 135) K 0 rfl rfl dX1_renew_135 ?_
      replace h := Option.bind_eq_some_iff.mp h
      obtain ⟨x11, e12, h⟩ := h
      refine g_getI (pc := 136) K cl_1 hin_X1 (k := 0) (by decide) tb_32 rfl e12 dX1_renew_136 ?_
      refine g_if_eq (pc := 139) K 151 dX1_renew_139 (by decide) (fun c13 => ?_) (fun c13 => ?_)
      · replace h := (if_pos c13).symm.trans h
        refine g_aload_n (pc := 151) K 0 rfl rfl dX1_renew_151 ?_
        replace h := Option.bind_eq_some_iff.mp h
        obtain ⟨r14, e15, h⟩ := h
        refine g_getR (pc := 152) K cl_1 hin_X1 (k := 3) (by decide) tb_41 rfl e15 dX1_renew_152 ?_
        refine g_iconst (pc := 155) (v := 0) K dX1_renew_155 (by decide) ?_
        replace h := Option.bind_eq_some_iff.mp h
        obtain ⟨a16, rfl, h⟩ := h
        replace h := Option.bind_eq_some_iff.mp h
        obtain ⟨r18, e17, h⟩ := h
        refine g_qald (pc := 156) K e17 dX1_renew_156 ?_
        replace h := Option.bind_eq_some_iff.mp h
        obtain ⟨a19, rfl, h⟩ := h
        replace h := Option.bind_eq_some_iff.mp h
        obtain ⟨x20, e21, h⟩ := h
        refine g_getI (pc := 157) K cl_1 hin_X1 (k := 5) (by decide) tb_47 rfl e21 dX1_renew_157 ?_
        refine g_sub K [] rfl ?_
        exact w_X1_renew_160 K hT  _ _ _ _ _ h (by omega) (by omega)
      · replace h := (if_neg c13).symm.trans h
        refine g_aload_n (pc := 142) K 0 rfl rfl dX1_renew_142 ?_
        replace h := Option.bind_eq_some_iff.mp h
        obtain ⟨r22, e23, h⟩ := h
        refine g_getR (pc := 143) K cl_1 hin_X1 (k := 1) (by decide) tb_35 rfl e23 dX1_renew_143 ?_
        refine g_iconst (pc := 146) (v := 0) K dX1_renew_146 (by decide) ?_
        replace h := Option.bind_eq_some_iff.mp h
        obtain ⟨a24, rfl, h⟩ := h
        replace h := Option.bind_eq_some_iff.mp h
        obtain ⟨x26, e25, h⟩ := h
        refine g_iald (pc := 147) K e25 dX1_renew_147 ?_
        refine g_goto (pc := 148) (tgt := 160) K dX1_renew_148 (by decide) ?_
        refine g_sub K [] rfl ?_
        exact w_X1_renew_160 K hT  _ _ _ _ _ h (by omega) (by omega)
  · replace h := (if_neg c3).symm.trans h
    refine g_aload_n (pc := 36) K 0 rfl rfl dX1_renew_36 ?_
    replace h := Option.bind_eq_some_iff.mp h
    obtain ⟨x27, e28, h⟩ := h
    refine g_getI (pc := 37) K cl_1 hin_X1 (k := 0) (by decide) tb_32 rfl e28 dX1_renew_37 ?_
    refine g_if_eq (pc := 40) K 69 dX1_renew_40 (by decide) (fun c29 => ?_) (fun c29 => ?_)
    · replace h := (if_pos c29).symm.trans h
      refine g_aload_n (pc := 69) K 0 rfl rfl dX1_renew_69 ?_
      replace h := Option.bind_eq_some_iff.mp h
      obtain ⟨r30, e31, h⟩ := h
      refine g_getR (pc := 70) K cl_1 hin_X1 (k := 3) (by decide) tb_41 rfl e31 dX1_renew_70 ?_
      refine g_iload_n (pc := 73) K 3 rfl rfl dX1_renew_73 ?_
      replace h := Option.bind_eq_some_iff.mp h
      obtain ⟨a32, rfl, h⟩ := h
      replace h := Option.bind_eq_some_iff.mp h
      obtain ⟨r34, e33, h⟩ := h
      refine g_qald (pc := 74) K e33 dX1_renew_74 ?_
      refine g_astore (pc := 75) K [(4, P_ r34), (0, P_ (some v0)), (1, I_ v1), (2, I_ v2), (3, I_ v3)] (by decide) rfl dX1_renew_75 ?_
      refine g_iload_n (pc := 77) K 3 rfl rfl dX1_renew_77 ?_
      refine g_aload (pc := 78) K 0 rfl dX1_renew_78 ?_
      replace h := Option.bind_eq_some_iff.mp h
      obtain ⟨a35, rfl, h⟩ := h
      replace h := Option.bind_eq_some_iff.mp h
      obtain ⟨x36, e37, h⟩ := h
      refine g_getI (pc := 80) K cl_1 hin_X1 (k := 5) (by decide) tb_47 rfl e37 dX1_renew_80 ?_
      replace h := Option.bind_eq_some_iff.mp h
      obtain ⟨x39, e38, h⟩ := h
      refine g_callN (pc := 83) (st := []) (host := RX7) K [I_ v2, I_ x36] (c_X7_mix _ _ _ _ _ _ e38) tb_80 K.2.1.2.1 tb_1 tb_79 hd_X7_mix ⟨Nat.le_of_ble_eq_true rfl, Nat.le_of_ble_eq_true rfl⟩ rfl (sw_rm (Nat.le_of_ble_eq_true rfl)) ⟨by show _ ≤ 0; omega, by show _ ≤ 0; omega⟩ dX1_renew_83 ?_
      refine g_aload (pc := 86) K 0 rfl dX1_renew_86 ?_
      replace h := Option.bind_eq_some_iff.mp h
      obtain ⟨x40, e41, h⟩ := h
      refine g_getI (pc := 88) K cl_1 hin_X1 (k := 7) (by decide) tb_55 rfl e41 dX1_renew_88 ?_
      replace h := Option.bind_eq_some_iff.mp h
      obtain ⟨x43, e42, h⟩ := h
      refine g_callN (pc := 91) (st := []) (host := RX7) K [I_ x39, I_ x40] (c_X7_mix _ _ _ _ _ _ e42) tb_80 K.2.1.2.1 tb_1 tb_79 hd_X7_mix ⟨Nat.le_of_ble_eq_true rfl, Nat.le_of_ble_eq_true rfl⟩ rfl (sw_rm (Nat.le_of_ble_eq_true rfl)) ⟨by show _ ≤ 0; omega, by show _ ≤ 0; omega⟩ dX1_renew_91 ?_
      refine g_aload (pc := 94) K 0 rfl dX1_renew_94 ?_
      replace h := Option.bind_eq_some_iff.mp h
      obtain ⟨x44, e45, h⟩ := h
      refine g_getI (pc := 96) K cl_1 hin_X1 (k := 6) (by decide) tb_52 rfl e45 dX1_renew_96 ?_
      replace h := Option.bind_eq_some_iff.mp h
      obtain ⟨x47, e46, h⟩ := h
      refine g_callN (pc := 99) (st := []) (host := RX7) K [I_ x43, I_ x44] (c_X7_mix _ _ _ _ _ _ e46) tb_80 K.2.1.2.1 tb_1 tb_79 hd_X7_mix ⟨Nat.le_of_ble_eq_true rfl, Nat.le_of_ble_eq_true rfl⟩ rfl (sw_rm (Nat.le_of_ble_eq_true rfl)) ⟨by show _ ≤ 0; omega, by show _ ≤ 0; omega⟩ dX1_renew_99 ?_
      refine g_istore_n (pc := 102) K [(2, I_ x47), (4, P_ (some a35)), (0, P_ (some v0)), (1, I_ v1), (3, I_ v3)] rfl (by decide) rfl dX1_renew_102 ?_
      refine g_iload_n (pc := 103) K 3 rfl rfl dX1_renew_103 ?_
      refine g_aload (pc := 104) K 1 rfl dX1_renew_104 ?_
      replace h := Option.bind_eq_some_iff.mp h
      obtain ⟨x48, e49, h⟩ := h
      refine g_getI (pc := 106) K cl_1 hin_X1 (k := 6) (by decide) tb_52 rfl e49 dX1_renew_106 ?_
      refine g_iadd (pc := 109) K dX1_renew_109 ?_
      refine g_istore_n (pc := 110) K [(1, I_ ((v1 + x48))), (2, I_ x47), (4, P_ (some a35)), (0, P_ (some v0)), (3, I_ v3)] rfl (by decide) rfl dX1_renew_110 ?_
      refine g_sub K [3, 0, 1, 4] rfl ?_
      exact w_X1_renew_111 K hT hrec28  _ _ _ _ _ _ _ h (by omega) (by omega)
    · replace h := (if_neg c29).symm.trans h
      refine g_iload_n (pc := 43) K 2 rfl rfl dX1_renew_43 ?_
      refine g_aload_n (pc := 44) K 0 rfl rfl dX1_renew_44 ?_
      replace h := Option.bind_eq_some_iff.mp h
      obtain ⟨r50, e51, h⟩ := h
      refine g_getR (pc := 45) K cl_1 hin_X1 (k := 1) (by decide) tb_35 rfl e51 dX1_renew_45 ?_
      refine g_iload_n (pc := 48) K 3 rfl rfl dX1_renew_48 ?_
      replace h := Option.bind_eq_some_iff.mp h
      obtain ⟨a52, rfl, h⟩ := h
      replace h := Option.bind_eq_some_iff.mp h
      obtain ⟨x54, e53, h⟩ := h
      refine g_iald (pc := 49) K e53 dX1_renew_49 ?_
      replace h := Option.bind_eq_some_iff.mp h
      obtain ⟨x56, e55, h⟩ := h
      refine g_callN (pc := 50) (st := []) (host := RX7) K [I_ v2, I_ x54] (c_X7_mix _ _ _ _ _ _ e55) tb_80 K.2.1.2.1 tb_1 tb_79 hd_X7_mix ⟨Nat.le_of_ble_eq_true rfl, Nat.le_of_ble_eq_true rfl⟩ rfl (sw_rm (Nat.le_of_ble_eq_true rfl)) ⟨by show _ ≤ 0; omega, by show _ ≤ 0; omega⟩ dX1_renew_50 ?_
      refine g_aload_n (pc := 53) K 0 rfl rfl dX1_renew_53 ?_
      replace h := Option.bind_eq_some_iff.mp h
      obtain ⟨r57, e58, h⟩ := h
      refine g_getR (pc := 54) K cl_1 hin_X1 (k := 2) (by decide) tb_38 rfl e58 dX1_renew_54 ?_
      refine g_iload_n (pc := 57) K 3 rfl rfl dX1_renew_57 ?_
      replace h := Option.bind_eq_some_iff.mp h
      obtain ⟨a59, rfl, h⟩ := h
      replace h := Option.bind_eq_some_iff.mp h
      obtain ⟨x61, e60, h⟩ := h
      refine g_iald (pc := 58) K e60 dX1_renew_58 ?_
      replace h := Option.bind_eq_some_iff.mp h
      obtain ⟨x63, e62, h⟩ := h
      refine g_callN (pc := 59) (st := []) (host := RX7) K [I_ x56, I_ x61] (c_X7_mix _ _ _ _ _ _ e62) tb_80 K.2.1.2.1 tb_1 tb_79 hd_X7_mix ⟨Nat.le_of_ble_eq_true rfl, Nat.le_of_ble_eq_true rfl⟩ rfl (sw_rm (Nat.le_of_ble_eq_true rfl)) ⟨by show _ ≤ 0; omega, by show _ ≤ 0; omega⟩ dX1_renew_59 ?_
      refine g_istore_n (pc := 62) K [(2, I_ x63), (0, P_ (some v0)), (1, I_ v1), (3, I_ v3)] rfl (by decide) rfl dX1_renew_62 ?_
      refine g_iinc (pc := 63) K 2 (v1 + 1) [(1, I_ ((v1 + 1))), (2, I_ x63), (0, P_ (some v0)), (3, I_ v3)] rfl rfl (by decide) rfl dX1_renew_63 ?_
      refine g_goto (pc := 66) (tgt := 111) K dX1_renew_66 (by decide) ?_
      refine g_sub K [2, 0, 1, 3] rfl ?_
      exact w_X1_renew_111 K hT hrec28  _ _ _ _ _ _ _ h (by omega) (by omega)
def b_X1_renew_28  : Nat → Nat → Int32 → Int32 → Int32 → sw_S → Option sw_S
  | 0 => fun _ _ _ _ _ => none
  | n + 1 => B_X1_renew_28 (b_X1_renew_28  n)
theorem wl_X1_renew_28 {p : Program} {l : Launch} {e : Env} {s : State} {m : MethodId} {args : Array Value} {below : List Frame} {meth : Method} {c : Code} {Q : State → Prop} {A : Nat → Prop} {D : va_G} {cT : Nat → ClassId} {σ' : sw_S}  (K : sw_C p s m args c cX1_renew 5 RX1 A D cT) (hT : sw_Tv cX1_renew p l e (sw_R 1 0 0 22) s m args below meth c Q 5 A D cT 0 0 σ') : ∀ (n : Nat) (v0 : Nat) (v1 : Int32) (v2 : Int32) (v3 : Int32) (σ : sw_S) (ce sl : Nat), b_X1_renew_28  n v0 v1 v2 v3 σ = some σ' → ce + (0) ≤ 0 → sl + (0) ≤ 0 → sw_G p l e (sw_R 1 0 0 22) s m args below meth c Q 5 A D cT σ ce sl 28 [(0, P_ (some v0)), (1, I_ v1), (2, I_ v2), (3, I_ v3)] [] := by
  intro n
  induction n with
  | zero =>
    intro v0 v1 v2 v3 σ ce sl h
    exact absurd (show none = some σ' from h) (by simp)
  | succ n ih =>
    intro v0 v1 v2 v3 σ ce sl h hce hsl
    exact wB_X1_renew_28 K hT (fun _ _ _ _ _ _ _ h h1 h2 => ih _ _ _ _ _ _ _ h h1 h2) _ _ _ _ _ _ _ h hce hsl
def b_X1_renew_15 (v0 : Nat) (v1 : Int32) (t0 : Int32) (t1 : Int32) (σ : sw_S) : Option sw_S :=
  (f_X7_mix t1 t0 σ).bind fun x2 =>
  (sw_gI 1 v0 4 σ).bind fun x3 =>
  (f_X7_mix x2 x3 σ).bind fun x6 =>
  b_X1_renew_28 1000 v0 v1 x6 0 σ
set_option maxHeartbeats 4000000 in
set_option maxRecDepth 100000 in
theorem w_X1_renew_15 {p : Program} {l : Launch} {e : Env} {s : State} {m : MethodId} {args : Array Value} {below : List Frame} {meth : Method} {c : Code} {Q : State → Prop} {A : Nat → Prop} {D : va_G} {cT : Nat → ClassId} {σ' : sw_S}  (K : sw_C p s m args c cX1_renew 5 RX1 A D cT) (hT : sw_Tv cX1_renew p l e (sw_R 1 0 0 22) s m args below meth c Q 5 A D cT 0 0 σ') (v0 : Nat) (v1 : Int32) (t0 : Int32) (t1 : Int32) (σ : sw_S)  (ce sl : Nat) (h : b_X1_renew_15 v0 v1 t0 t1 σ = some σ') (hce : ce + (0) ≤ 0) (hsl : sl + (0) ≤ 0) : sw_G p l e (sw_R 1 0 0 22) s m args below meth c Q 5 A D cT σ ce sl 15 [(0, P_ (some v0)), (1, I_ v1)] [I_ t0, I_ t1] := by
  unfold b_X1_renew_15 at h
  replace h := Option.bind_eq_some_iff.mp h
  obtain ⟨x2, e1, h⟩ := h
  refine g_callN (pc := 15) (st := []) (host := RX7) K [I_ t1, I_ t0] (c_X7_mix _ _ _ _ _ _ e1) tb_80 K.2.1.2.1 tb_1 tb_79 hd_X7_mix ⟨Nat.le_of_ble_eq_true rfl, Nat.le_of_ble_eq_true rfl⟩ rfl (sw_rm (Nat.le_of_ble_eq_true rfl)) ⟨by show _ ≤ 0; omega, by show _ ≤ 0; omega⟩ dX1_renew_15 ?_
  refine g_aload_n (pc := 18) K 0 rfl rfl dX1_renew_18 ?_
  replace h := Option.bind_eq_some_iff.mp h
  obtain ⟨x3, e4, h⟩ := h
  refine g_getI (pc := 19) K cl_1 hin_X1 (k := 4) (by decide) tb_44 rfl e4 dX1_renew_19 ?_
  replace h := Option.bind_eq_some_iff.mp h
  obtain ⟨x6, e5, h⟩ := h
  refine g_callN (pc := 22) (st := []) (host := RX7) K [I_ x2, I_ x3] (c_X7_mix _ _ _ _ _ _ e5) tb_80 K.2.1.2.1 tb_1 tb_79 hd_X7_mix ⟨Nat.le_of_ble_eq_true rfl, Nat.le_of_ble_eq_true rfl⟩ rfl (sw_rm (Nat.le_of_ble_eq_true rfl)) ⟨by show _ ≤ 0; omega, by show _ ≤ 0; omega⟩ dX1_renew_22 ?_
  refine g_istore_n (pc := 25) K [(2, I_ x6), (0, P_ (some v0)), (1, I_ v1)] rfl (by decide) rfl dX1_renew_25 ?_
  refine g_iconst (pc := 26) (v := 0) K dX1_renew_26 (by decide) ?_
  refine g_istore_n (pc := 27) K [(3, I_ 0), (2, I_ x6), (0, P_ (some v0)), (1, I_ v1)] rfl (by decide) rfl dX1_renew_27 ?_
  refine g_sub K [2, 3, 1, 0] rfl ?_
  exact wl_X1_renew_28 K hT  1000 _ _ _ _ _ _ _ h (by omega) (by omega)
def f_X1_renew (p0 : Nat) (σ : sw_S) : Option sw_S :=
  (sw_gI 1 p0 0 σ).bind fun x1 =>
  (if x1 = 0 then
  b_X1_renew_15 p0 0 2 1 σ
  else
  b_X1_renew_15 p0 0 1 1 σ)
set_option maxHeartbeats 4000000 in
set_option maxRecDepth 100000 in
theorem c_X1_renew  (l : Launch) (D : va_G) (cT : Nat → ClassId) (p0 : Nat) (σ : sw_S) {σ' : sw_S} (h : f_X1_renew p0 σ = some σ') : sw_M l D cT yX1_renew cX1_renew 5 none 1 22 0 0 σ [P_ (some p0)] none σ' := by
  refine sw_met_v (by decide) (Nat.le_of_ble_eq_true rfl) (fun p e s m args below meth c A Q K hnm hT => ?_)
  have hce : 0 + 0 ≤ 0 := Nat.le_of_ble_eq_true rfl
  have hsl : 0 + 0 ≤ 0 := Nat.le_of_ble_eq_true rfl
  unfold f_X1_renew at h
  change sw_G p l e (sw_R 1 0 0 22) s m args below meth c Q 5 A D cT σ 0 0 0 [(0, P_ (some p0))] []
  refine g_iconst (pc := 0) (v := 0) K dX1_renew_0 (by decide) ?_
  refine g_istore_n (pc := 1) K [(1, I_ 0), (0, P_ (some p0))] rfl (by decide) rfl dX1_renew_1 ?_
  refine g_iconst (pc := 2) (v := 1) K dX1_renew_2 (by decide) ?_
  refine g_aload_n (pc := 3) K 1 rfl rfl dX1_renew_3 ?_
  replace h := Option.bind_eq_some_iff.mp h
  obtain ⟨x1, e2, h⟩ := h
  refine g_getI (pc := 4) K cl_1 hin_X1 (k := 0) (by decide) tb_32 rfl e2 dX1_renew_4 ?_
  refine g_if_eq (pc := 7) K 14 dX1_renew_7 (by decide) (fun c3 => ?_) (fun c3 => ?_)
  · replace h := (if_pos c3).symm.trans h
    refine g_iconst (pc := 14) (v := 2) K dX1_renew_14 (by decide) ?_
    refine g_sub K [1, 0] rfl ?_
    exact w_X1_renew_15 K hT  _ _ _ _ _ _ _ h (by omega) (by omega)
  · replace h := (if_neg c3).symm.trans h
    refine g_iconst (pc := 10) (v := 1) K dX1_renew_10 (by decide) ?_
    refine g_goto (pc := 11) (tgt := 15) K dX1_renew_11 (by decide) ?_
    refine g_sub K [1, 0] rfl ?_
    exact w_X1_renew_15 K hT  _ _ _ _ _ _ _ h (by omega) (by omega)
