def b_X7_init_19 (v0 : Nat) (t0 : Int32) (σ : sw_S) : Option sw_S :=
  (some (sw_nw σ (.inr (6, [.int 0, .int 0, .null, .null, .null, .int 0])))).bind fun σ1 =>
  (f_X6_init σ.1 t0 σ1).bind fun σ4 =>
  (sw_pt 7 v0 0 (va_rf (some σ.1)) σ4).bind fun σ5 =>
  (some (sw_nw σ5 (.inr (2, [.null, .int 0])))).bind fun σ7 =>
  (f_X2_init σ5.1 σ7).bind fun σ10 =>
  (sw_pt 7 v0 1 (va_rf (some σ5.1)) σ10).bind fun σ11 =>
  (some (sw_nw σ11 (.inr (0, [.int 0, .null, .null, .null, .null, .null, .null, .int 0, .int 0, .int 0, .int 0, .int 0, .int 0])))).bind fun σ13 =>
  (sw_gR 7 v0 1 σ13).bind fun r15 =>
  r15.bind fun a17 =>
  (f_X0_init σ11.1 t0 a17 σ13).bind fun σ19 =>
  (sw_pt 7 v0 2 (va_rf (some σ11.1)) σ19).bind fun σ20 =>
  (some (sw_nw σ20 (.inr (5, [.null, .null, .int 0])))).bind fun σ22 =>
  (f_X5_init σ20.1 σ22).bind fun σ25 =>
  (sw_pt 7 v0 3 (va_rf (some σ20.1)) σ25).bind fun σ26 =>
  some σ26
set_option maxHeartbeats 4000000 in
set_option maxRecDepth 100000 in
theorem w_X7_init_19 {p : Program} {l : Launch} {e : Env} {s : State} {m : MethodId} {args : Array Value} {below : List Frame} {meth : Method} {c : Code} {Q : State → Prop} {A : Nat → Prop} {D : va_G} {cT : Nat → ClassId} {σ' : sw_S}  (hnm : meth.name = "<init>")  (K : sw_C p s m args c cX7_init 3 RX7 A D cT) (hT : sw_Tv cX7_init p l e (sw_R 3 18 1142 67) s m args below meth c Q 3 A D cT 18 1142 σ') (v0 : Nat) (t0 : Int32) (σ : sw_S)  (ce sl : Nat) (h : b_X7_init_19 v0 t0 σ = some σ') (hce : ce + (18) ≤ 18) (hsl : sl + (1142) ≤ 1142) : sw_G p l e (sw_R 3 18 1142 67) s m args below meth c Q 3 A D cT σ ce sl 19 [(0, P_ (some v0))] [I_ t0] := by
  unfold b_X7_init_19 at h
  refine g_istore_n (pc := 19) K [(2, I_ t0), (0, P_ (some v0))] rfl (by decide) rfl dX7_init_19 ?_
  refine g_aload_n (pc := 20) K 1 rfl rfl dX7_init_20 ?_
  replace h := Option.bind_eq_some_iff.mp h
  obtain ⟨σ1, e2, h⟩ := h
  replace e2 := Option.some.inj e2
  refine g_new (pc := 21) K 6 [.int 0, .int 0, .null, .null, .null, .int 0] cl_6 hin_X6 tyX6 tyX6_ok tb_18 tb_19 tb_2 fs_X6 (by show _ ≤ 18; omega) (by show _ ≤ 1142; omega) dX7_init_21 ?_
  rw [e2]
  refine g_dup (pc := 24) K rfl dX7_init_24 ?_
  refine g_iload_n (pc := 25) K 0 rfl rfl dX7_init_25 ?_
  replace h := Option.bind_eq_some_iff.mp h
  obtain ⟨σ4, e3, h⟩ := h
  refine g_callI (pc := 26) (st := [P_ (some σ.1), P_ (some v0)]) K [I_ t0] (c_X6_init _ _ _ _ _ _ e3) tb_22 tb_20 tb_2 tb_21 rfl hd_X6_init ⟨Nat.le_of_ble_eq_true rfl, Nat.le_of_ble_eq_true rfl⟩ rfl (sw_rm (Nat.le_of_ble_eq_true rfl)) ⟨by show _ ≤ 18; omega, by show _ ≤ 1142; omega⟩ dX7_init_26 ?_
  replace h := Option.bind_eq_some_iff.mp h
  obtain ⟨σ5, e6, h⟩ := h
  refine g_put (pc := 29) K cl_7 hin_X7 (k := 0) (by decide) tb_187 rfl tyX7 tyX7_ok nmX7 (Or.inr ⟨rfl, hnm, rfl⟩) (sw_nr (tyX7 0) rfl _) (sw_fr (tyX7 0) rfl _) e6 dX7_init_29 ?_
  refine g_aload_n (pc := 32) K 1 rfl rfl dX7_init_32 ?_
  replace h := Option.bind_eq_some_iff.mp h
  obtain ⟨σ7, e8, h⟩ := h
  replace e8 := Option.some.inj e8
  refine g_new (pc := 33) K 2 [.null, .int 0] cl_2 hin_X2 tyX2 tyX2_ok tb_103 tb_104 tb_4 fs_X2 (by show _ ≤ 18; omega) (by show _ ≤ 1142; omega) dX7_init_33 ?_
  rw [e8]
  refine g_dup (pc := 36) K rfl dX7_init_36 ?_
  replace h := Option.bind_eq_some_iff.mp h
  obtain ⟨σ10, e9, h⟩ := h
  refine g_callI (pc := 37) (st := [P_ (some σ5.1), P_ (some v0)]) K [] (c_X2_init _ _ _ _ _ e9) tb_107 tb_105 tb_4 tb_106 rfl hd_X2_init ⟨Nat.le_of_ble_eq_true rfl, Nat.le_of_ble_eq_true rfl⟩ rfl (sw_rm (Nat.le_of_ble_eq_true rfl)) ⟨by show _ ≤ 18; omega, by show _ ≤ 1142; omega⟩ dX7_init_37 ?_
  replace h := Option.bind_eq_some_iff.mp h
  obtain ⟨σ11, e12, h⟩ := h
  refine g_put (pc := 40) K cl_7 hin_X7 (k := 1) (by decide) tb_188 rfl tyX7 tyX7_ok nmX7 (Or.inr ⟨rfl, hnm, rfl⟩) (sw_nr (tyX7 1) rfl _) (sw_fr (tyX7 1) rfl _) e12 dX7_init_40 ?_
  refine g_aload_n (pc := 43) K 1 rfl rfl dX7_init_43 ?_
  replace h := Option.bind_eq_some_iff.mp h
  obtain ⟨σ13, e14, h⟩ := h
  replace e14 := Option.some.inj e14
  refine g_new (pc := 44) K 0 [.int 0, .null, .null, .null, .null, .null, .null, .int 0, .int 0, .int 0, .int 0, .int 0, .int 0] cl_0 hin_X0 tyX0 tyX0_ok tb_120 tb_121 tb_5 fs_X0 (by show _ ≤ 18; omega) (by show _ ≤ 1142; omega) dX7_init_44 ?_
  rw [e14]
  refine g_dup (pc := 47) K rfl dX7_init_47 ?_
  refine g_iload_n (pc := 48) K 0 rfl rfl dX7_init_48 ?_
  refine g_aload_n (pc := 49) K 1 rfl rfl dX7_init_49 ?_
  replace h := Option.bind_eq_some_iff.mp h
  obtain ⟨r15, e16, h⟩ := h
  refine g_getR (pc := 50) K cl_7 hin_X7 (k := 1) (by decide) tb_188 rfl e16 dX7_init_50 ?_
  replace h := Option.bind_eq_some_iff.mp h
  obtain ⟨a17, rfl, h⟩ := h
  replace h := Option.bind_eq_some_iff.mp h
  obtain ⟨σ19, e18, h⟩ := h
  refine g_callI (pc := 53) (st := [P_ (some σ11.1), P_ (some v0)]) K [I_ t0, P_ (some a17)] (c_X0_init _ _ _ _ _ _ _ e18) tb_124 tb_122 tb_5 tb_123 rfl hd_X0_init ⟨Nat.le_of_ble_eq_true rfl, Nat.le_of_ble_eq_true rfl⟩ rfl (sw_rm (Nat.le_of_ble_eq_true rfl)) ⟨by show _ ≤ 18; omega, by show _ ≤ 1142; omega⟩ dX7_init_53 ?_
  replace h := Option.bind_eq_some_iff.mp h
  obtain ⟨σ20, e21, h⟩ := h
  refine g_put (pc := 56) K cl_7 hin_X7 (k := 2) (by decide) tb_189 rfl tyX7 tyX7_ok nmX7 (Or.inr ⟨rfl, hnm, rfl⟩) (sw_nr (tyX7 2) rfl _) (sw_fr (tyX7 2) rfl _) e21 dX7_init_56 ?_
  refine g_aload_n (pc := 59) K 1 rfl rfl dX7_init_59 ?_
  replace h := Option.bind_eq_some_iff.mp h
  obtain ⟨σ22, e23, h⟩ := h
  replace e23 := Option.some.inj e23
  refine g_new (pc := 60) K 5 [.null, .null, .int 0] cl_5 hin_X5 tyX5 tyX5_ok tb_167 tb_168 tb_6 fs_X5 (by show _ ≤ 18; omega) (by show _ ≤ 1142; omega) dX7_init_60 ?_
  rw [e23]
  refine g_dup (pc := 63) K rfl dX7_init_63 ?_
  replace h := Option.bind_eq_some_iff.mp h
  obtain ⟨σ25, e24, h⟩ := h
  refine g_callI (pc := 64) (st := [P_ (some σ20.1), P_ (some v0)]) K [] (c_X5_init _ _ _ _ _ e24) tb_171 tb_169 tb_6 tb_170 rfl hd_X5_init ⟨Nat.le_of_ble_eq_true rfl, Nat.le_of_ble_eq_true rfl⟩ rfl (sw_rm (Nat.le_of_ble_eq_true rfl)) ⟨by show _ ≤ 18; omega, by show _ ≤ 1142; omega⟩ dX7_init_64 ?_
  replace h := Option.bind_eq_some_iff.mp h
  obtain ⟨σ26, e27, h⟩ := h
  refine g_put (pc := 67) K cl_7 hin_X7 (k := 3) (by decide) tb_190 rfl tyX7 tyX7_ok nmX7 (Or.inr ⟨rfl, hnm, rfl⟩) (sw_nr (tyX7 3) rfl _) (sw_fr (tyX7 3) rfl _) e27 dX7_init_67 ?_
  cases h
  exact hT _ _ 70 _ (by omega) (by omega) dX7_init_70
def b_X7_init_18 (v0 : Nat) (σ : sw_S) : Option sw_S :=
  b_X7_init_19 v0 4 σ
set_option maxHeartbeats 4000000 in
set_option maxRecDepth 100000 in
theorem w_X7_init_18 {p : Program} {l : Launch} {e : Env} {s : State} {m : MethodId} {args : Array Value} {below : List Frame} {meth : Method} {c : Code} {Q : State → Prop} {A : Nat → Prop} {D : va_G} {cT : Nat → ClassId} {σ' : sw_S}  (hnm : meth.name = "<init>")  (K : sw_C p s m args c cX7_init 3 RX7 A D cT) (hT : sw_Tv cX7_init p l e (sw_R 3 18 1142 67) s m args below meth c Q 3 A D cT 18 1142 σ') (v0 : Nat) (σ : sw_S)  (ce sl : Nat) (h : b_X7_init_18 v0 σ = some σ') (hce : ce + (18) ≤ 18) (hsl : sl + (1142) ≤ 1142) : sw_G p l e (sw_R 3 18 1142 67) s m args below meth c Q 3 A D cT σ ce sl 18 [(0, P_ (some v0))] [] := by
  unfold b_X7_init_18 at h
  refine g_iconst (pc := 18) (v := 4) K dX7_init_18 (by decide) ?_
  refine g_sub K [0] rfl ?_
  exact w_X7_init_19 hnm K hT  _ _ _ _ _ h (by omega) (by omega)
def f_X7_init (p0 : Nat) (q1 : Int32) (σ : sw_S) : Option sw_S :=
  (if q1 < 3 then
  b_X7_init_18 p0 σ
  else
  (if 5 < q1 then
  b_X7_init_18 p0 σ
  else
  b_X7_init_19 p0 q1 σ))
set_option maxHeartbeats 4000000 in
set_option maxRecDepth 100000 in
theorem c_X7_init  (l : Launch) (D : va_G) (cT : Nat → ClassId) (p0 : Nat) (q1 : Int32) (σ : sw_S) {σ' : sw_S} (h : f_X7_init p0 q1 σ = some σ') : sw_M l D cT yX7_init cX7_init 3 none 3 67 18 1142 σ [P_ (some p0), I_ q1] none σ' := by
  refine sw_met_v (by decide) (Nat.le_of_ble_eq_true rfl) (fun p e s m args below meth c A Q K hnm hT => ?_)
  have hce : 0 + 18 ≤ 18 := Nat.le_of_ble_eq_true rfl
  have hsl : 0 + 1142 ≤ 1142 := Nat.le_of_ble_eq_true rfl
  unfold f_X7_init at h
  change sw_G p l e (sw_R 3 18 1142 67) s m args below meth c Q 3 A D cT σ 0 0 0 [(0, P_ (some p0)), (1, I_ q1)] []
  refine g_aload_n (pc := 0) K 0 rfl rfl dX7_init_0 ?_
  refine g_objInit (pc := 1) K tb_15 tb_16 tb_17 ⟨Nat.le_of_ble_eq_true rfl, Nat.le_of_ble_eq_true rfl⟩ (sw_rm (Nat.le_of_ble_eq_true rfl)) dX7_init_1 ?_
  refine g_iload_n (pc := 4) K 1 rfl rfl dX7_init_4 ?_
  refine g_iconst (pc := 5) (v := 3) K dX7_init_5 (by decide) ?_
  refine g_icmp_lt (pc := 6) K 18 dX7_init_6 (by decide) (fun c1 => ?_) (fun c1 => ?_)
  · replace h := (if_pos c1).symm.trans h
    refine g_sub K [0] rfl ?_
    exact w_X7_init_18 hnm K hT  _ _ _ _ h (by omega) (by omega)
  · replace h := (if_neg c1).symm.trans h
    refine g_iload_n (pc := 9) K 1 rfl rfl dX7_init_9 ?_
    refine g_iconst (pc := 10) (v := 5) K dX7_init_10 (by decide) ?_
    refine g_icmp_gt (pc := 11) K 18 dX7_init_11 (by decide) (fun c2 => ?_) (fun c2 => ?_)
    · replace h := (if_pos c2).symm.trans h
      refine g_sub K [0] rfl ?_
      exact w_X7_init_18 hnm K hT  _ _ _ _ h (by omega) (by omega)
    · replace h := (if_neg c2).symm.trans h
      refine g_iload_n (pc := 14) K 1 rfl rfl dX7_init_14 ?_
      refine g_goto (pc := 15) (tgt := 19) K dX7_init_15 (by decide) ?_
      refine g_sub K [0] rfl ?_
      exact w_X7_init_19 hnm K hT  _ _ _ _ _ h (by omega) (by omega)

def b_X7_put_14 (σ : sw_S) : Option (Int32 × sw_S) :=
  some (0, σ)
set_option maxHeartbeats 4000000 in
set_option maxRecDepth 100000 in
theorem w_X7_put_14 {p : Program} {l : Launch} {e : Env} {s : State} {m : MethodId} {args : Array Value} {below : List Frame} {meth : Method} {c : Code} {Q : State → Prop} {A : Nat → Prop} {D : va_G} {cT : Nat → ClassId} {r : Int32}  {σ' : sw_S}  (K : sw_C p s m args c cX7_put 3 RX7 A D cT) (hT : sw_Ti cX7_put p l e (sw_R 6 36 234 137) s m args below meth c Q 3 A D cT 36 234 σ' r) (σ : sw_S)  (ce sl : Nat) (h : b_X7_put_14  σ = some (r, σ')) (hce : ce + (0) ≤ 36) (hsl : sl + (0) ≤ 234) : sw_G p l e (sw_R 6 36 234 137) s m args below meth c Q 3 A D cT σ ce sl 14 [] [] := by
  unfold b_X7_put_14 at h
  refine g_iconst (pc := 14) (v := 0) K dX7_put_14 (by decide) ?_
  cases h
  exact hT _ _ 15 _ (by omega) (by omega) dX7_put_15
def f_X7_put (p0 : Nat) (q1 : Int32) (q2 : Int32) (σ : sw_S) : Option (Int32 × sw_S) :=
  (if q1 < ((-9999)) then
  b_X7_put_14 σ
  else
  (if q1 ≤ 9999 then
  (sw_gR 7 p0 0 σ).bind fun r3 =>
  r3.bind fun a5 =>
  (sw_ob 6 a5 σ).bind fun f6 =>
  sw_b2 (f_X6_store a5 q1 q2 σ) fun x9 σ10 =>
  some (x9, σ10)
  else
  b_X7_put_14 σ))
set_option maxHeartbeats 4000000 in
set_option maxRecDepth 100000 in
theorem c_X7_put  (l : Launch) (D : va_G) (cT : Nat → ClassId) (p0 : Nat) (q1 : Int32) (q2 : Int32) (σ : sw_S) {r : Int32} {σ' : sw_S} (h : f_X7_put p0 q1 q2 σ = some (r, σ')) : sw_M l D cT yX7_put cX7_put 3 (some .int) 6 137 36 234 σ [P_ (some p0), I_ q1, I_ q2] (some (I_ r)) σ' := by
  refine sw_met_i (by decide) (Nat.le_of_ble_eq_true rfl) (fun p e s m args below meth c A Q K hnm hT => ?_)
  have hce : 0 + 36 ≤ 36 := Nat.le_of_ble_eq_true rfl
  have hsl : 0 + 234 ≤ 234 := Nat.le_of_ble_eq_true rfl
  unfold f_X7_put at h
  change sw_G p l e (sw_R 6 36 234 137) s m args below meth c Q 3 A D cT σ 0 0 0 [(0, P_ (some p0)), (1, I_ q1), (2, I_ q2)] []
  refine g_iload_n (pc := 0) K 1 rfl rfl dX7_put_0 ?_
  refine g_sipush (pc := 1) (v := (-9999)) K dX7_put_1 (by decide) ?_
  refine g_icmp_lt (pc := 4) K 14 dX7_put_4 (by decide) (fun c1 => ?_) (fun c1 => ?_)
  · replace h := (if_pos c1).symm.trans h
    refine g_sub K [] rfl ?_
    exact w_X7_put_14 K hT   _ _ _ h (by omega) (by omega)
  · replace h := (if_neg c1).symm.trans h
    refine g_iload_n (pc := 7) K 1 rfl rfl dX7_put_7 ?_
    refine g_sipush (pc := 8) (v := 9999) K dX7_put_8 (by decide) ?_
    refine g_icmp_le (pc := 11) K 16 dX7_put_11 (by decide) (fun c2 => ?_) (fun c2 => ?_)
    · replace h := (if_pos c2).symm.trans h
      refine g_aload_n (pc := 16) K 0 rfl rfl dX7_put_16 ?_
      replace h := Option.bind_eq_some_iff.mp h
      obtain ⟨r3, e4, h⟩ := h
      refine g_getR (pc := 17) K cl_7 hin_X7 (k := 0) (by decide) tb_187 rfl e4 dX7_put_17 ?_
      refine g_iload_n (pc := 20) K 1 rfl rfl dX7_put_20 ?_
      refine g_iload_n (pc := 21) K 2 rfl rfl dX7_put_21 ?_
      replace h := Option.bind_eq_some_iff.mp h
      obtain ⟨a5, rfl, h⟩ := h
      replace h := Option.bind_eq_some_iff.mp h
      obtain ⟨f6, e7, h⟩ := h
      replace h := sw_b2_eq h
      obtain ⟨x9, σ10, e8, h⟩ := h
      refine g_callV (pc := 22) (st := []) K [I_ q1, I_ q2] (c_X6_store _ _ _ _ _ _ _ e8) e7 cl_6 rfl tb_207 tb_204 tb_2 tb_205 tb_206 hd_X6_store ⟨Nat.le_of_ble_eq_true rfl, Nat.le_of_ble_eq_true rfl⟩ rfl (sw_rm (Nat.le_of_ble_eq_true rfl)) ⟨by show _ ≤ 36; omega, by show _ ≤ 234; omega⟩ dX7_put_22 ?_
      cases h
      exact hT _ _ 25 _ (by omega) (by omega) dX7_put_25
    · replace h := (if_neg c2).symm.trans h
      refine g_sub K [] rfl ?_
      exact w_X7_put_14 K hT   _ _ _ h (by omega) (by omega)

def f_X7_remove (p0 : Nat) (q1 : Int32) (σ : sw_S) : Option (Int32 × sw_S) :=
  (sw_gR 7 p0 0 σ).bind fun r1 =>
  r1.bind fun a3 =>
  (sw_ob 6 a3 σ).bind fun f4 =>
  sw_b2 (f_X6_drop a3 q1 σ) fun x7 σ8 =>
  (sw_z x7).bind fun z9 =>
  some (z9, σ8)
set_option maxHeartbeats 4000000 in
set_option maxRecDepth 100000 in
theorem c_X7_remove  (l : Launch) (D : va_G) (cT : Nat → ClassId) (p0 : Nat) (q1 : Int32) (σ : sw_S) {r : Int32} {σ' : sw_S} (h : f_X7_remove p0 q1 σ = some (r, σ')) : sw_M l D cT yX7_remove cX7_remove 2 (some .boolean) 6 138 0 0 σ [P_ (some p0), I_ q1] (some (I_ r)) σ' := by
  refine sw_met_z (by decide) (Nat.le_of_ble_eq_true rfl) (fun p e s m args below meth c A Q K hnm hT => ?_)
  have hce : 0 + 0 ≤ 0 := Nat.le_of_ble_eq_true rfl
  have hsl : 0 + 0 ≤ 0 := Nat.le_of_ble_eq_true rfl
  unfold f_X7_remove at h
  change sw_G p l e (sw_R 6 0 0 138) s m args below meth c Q 2 A D cT σ 0 0 0 [(0, P_ (some p0)), (1, I_ q1)] []
  refine g_aload_n (pc := 0) K 0 rfl rfl dX7_remove_0 ?_
  replace h := Option.bind_eq_some_iff.mp h
  obtain ⟨r1, e2, h⟩ := h
  refine g_getR (pc := 1) K cl_7 hin_X7 (k := 0) (by decide) tb_187 rfl e2 dX7_remove_1 ?_
  refine g_iload_n (pc := 4) K 1 rfl rfl dX7_remove_4 ?_
  replace h := Option.bind_eq_some_iff.mp h
  obtain ⟨a3, rfl, h⟩ := h
  replace h := Option.bind_eq_some_iff.mp h
  obtain ⟨f4, e5, h⟩ := h
  replace h := sw_b2_eq h
  obtain ⟨x7, σ8, e6, h⟩ := h
  refine g_callV (pc := 5) (st := []) K [I_ q1] (c_X6_drop _ _ _ _ _ _ e6) e5 cl_6 rfl tb_255 tb_252 tb_2 tb_253 tb_254 hd_X6_drop ⟨Nat.le_of_ble_eq_true rfl, Nat.le_of_ble_eq_true rfl⟩ rfl (sw_rm (Nat.le_of_ble_eq_true rfl)) ⟨by show _ ≤ 0; omega, by show _ ≤ 0; omega⟩ dX7_remove_5 ?_
  replace h := Option.bind_eq_some_iff.mp h
  obtain ⟨z9, e10, h⟩ := h
  obtain ⟨rfl, e11⟩ := sw_z_eq e10
  cases h
  exact hT _ _ 8 _ (by omega) (by omega) e11.1 dX7_remove_8

def f_X7_get (p0 : Nat) (q1 : Int32) (σ : sw_S) : Option (Int32 × sw_S) :=
  (sw_gR 7 p0 0 σ).bind fun r1 =>
  r1.bind fun a3 =>
  (sw_ob 6 a3 σ).bind fun f4 =>
  sw_b2 (f_X6_valueOf a3 q1 σ) fun x7 σ8 =>
  some (x7, σ8)
set_option maxHeartbeats 4000000 in
set_option maxRecDepth 100000 in
theorem c_X7_get  (l : Launch) (D : va_G) (cT : Nat → ClassId) (p0 : Nat) (q1 : Int32) (σ : sw_S) {r : Int32} {σ' : sw_S} (h : f_X7_get p0 q1 σ = some (r, σ')) : sw_M l D cT yX7_get cX7_get 2 (some .int) 3 69 0 0 σ [P_ (some p0), I_ q1] (some (I_ r)) σ' := by
  refine sw_met_i (by decide) (Nat.le_of_ble_eq_true rfl) (fun p e s m args below meth c A Q K hnm hT => ?_)
  have hce : 0 + 0 ≤ 0 := Nat.le_of_ble_eq_true rfl
  have hsl : 0 + 0 ≤ 0 := Nat.le_of_ble_eq_true rfl
  unfold f_X7_get at h
  change sw_G p l e (sw_R 3 0 0 69) s m args below meth c Q 2 A D cT σ 0 0 0 [(0, P_ (some p0)), (1, I_ q1)] []
  refine g_aload_n (pc := 0) K 0 rfl rfl dX7_get_0 ?_
  replace h := Option.bind_eq_some_iff.mp h
  obtain ⟨r1, e2, h⟩ := h
  refine g_getR (pc := 1) K cl_7 hin_X7 (k := 0) (by decide) tb_187 rfl e2 dX7_get_1 ?_
  refine g_iload_n (pc := 4) K 1 rfl rfl dX7_get_4 ?_
  replace h := Option.bind_eq_some_iff.mp h
  obtain ⟨a3, rfl, h⟩ := h
  replace h := Option.bind_eq_some_iff.mp h
  obtain ⟨f4, e5, h⟩ := h
  replace h := sw_b2_eq h
  obtain ⟨x7, σ8, e6, h⟩ := h
  refine g_callV (pc := 5) (st := []) K [I_ q1] (c_X6_valueOf _ _ _ _ _ _ e6) e5 cl_6 rfl tb_285 tb_282 tb_2 tb_283 tb_284 hd_X6_valueOf ⟨Nat.le_of_ble_eq_true rfl, Nat.le_of_ble_eq_true rfl⟩ rfl (sw_rm (Nat.le_of_ble_eq_true rfl)) ⟨by show _ ≤ 0; omega, by show _ ≤ 0; omega⟩ dX7_get_5 ?_
  cases h
  exact hT _ _ 8 _ (by omega) (by omega) dX7_get_8

def f_X7_size (p0 : Nat) (σ : sw_S) : Option Int32 :=
  (sw_gR 7 p0 0 σ).bind fun r1 =>
  r1.bind fun a3 =>
  (sw_gR 6 a3 4 σ).bind fun r4 =>
  r4.bind fun a6 =>
  (sw_gI 1 a6 6 σ).bind fun x7 =>
  some x7
set_option maxHeartbeats 4000000 in
set_option maxRecDepth 100000 in
theorem c_X7_size  (l : Launch) (D : va_G) (cT : Nat → ClassId) (p0 : Nat) (σ : sw_S) {r : Int32} (h : f_X7_size p0 σ = some r) : sw_M l D cT yX7_size cX7_size 1 (some .int) 0 0 0 0 σ [P_ (some p0)] (some (I_ r)) σ := by
  refine sw_met_i (by decide) (Nat.le_of_ble_eq_true rfl) (fun p e s m args below meth c A Q K hnm hT => ?_)
  have hce : 0 + 0 ≤ 0 := Nat.le_of_ble_eq_true rfl
  have hsl : 0 + 0 ≤ 0 := Nat.le_of_ble_eq_true rfl
  unfold f_X7_size at h
  change sw_G p l e (sw_R 0 0 0 0) s m args below meth c Q 1 A D cT σ 0 0 0 [(0, P_ (some p0))] []
  refine g_aload_n (pc := 0) K 0 rfl rfl dX7_size_0 ?_
  replace h := Option.bind_eq_some_iff.mp h
  obtain ⟨r1, e2, h⟩ := h
  refine g_getR (pc := 1) K cl_7 hin_X7 (k := 0) (by decide) tb_187 rfl e2 dX7_size_1 ?_
  replace h := Option.bind_eq_some_iff.mp h
  obtain ⟨a3, rfl, h⟩ := h
  replace h := Option.bind_eq_some_iff.mp h
  obtain ⟨r4, e5, h⟩ := h
  refine g_getR (pc := 4) K cl_6 hin_X6 (k := 4) (by decide) tb_87 rfl e5 dX7_size_4 ?_
  replace h := Option.bind_eq_some_iff.mp h
  obtain ⟨a6, rfl, h⟩ := h
  replace h := Option.bind_eq_some_iff.mp h
  obtain ⟨x7, e8, h⟩ := h
  refine g_getI (pc := 7) K cl_1 hin_X1 (k := 6) (by decide) tb_50 rfl e8 dX7_size_7 ?_
  cases h
  exact hT _ _ 10 _ (by omega) (by omega) dX7_size_10

def f_X7_height (p0 : Nat) (σ : sw_S) : Option Int32 :=
  (sw_gR 7 p0 0 σ).bind fun r1 =>
  r1.bind fun a3 =>
  (sw_gI 6 a3 5 σ).bind fun x4 =>
  some x4
set_option maxHeartbeats 4000000 in
set_option maxRecDepth 100000 in
theorem c_X7_height  (l : Launch) (D : va_G) (cT : Nat → ClassId) (p0 : Nat) (σ : sw_S) {r : Int32} (h : f_X7_height p0 σ = some r) : sw_M l D cT yX7_height cX7_height 1 (some .int) 0 0 0 0 σ [P_ (some p0)] (some (I_ r)) σ := by
  refine sw_met_i (by decide) (Nat.le_of_ble_eq_true rfl) (fun p e s m args below meth c A Q K hnm hT => ?_)
  have hce : 0 + 0 ≤ 0 := Nat.le_of_ble_eq_true rfl
  have hsl : 0 + 0 ≤ 0 := Nat.le_of_ble_eq_true rfl
  unfold f_X7_height at h
  change sw_G p l e (sw_R 0 0 0 0) s m args below meth c Q 1 A D cT σ 0 0 0 [(0, P_ (some p0))] []
  refine g_aload_n (pc := 0) K 0 rfl rfl dX7_height_0 ?_
  replace h := Option.bind_eq_some_iff.mp h
  obtain ⟨r1, e2, h⟩ := h
  refine g_getR (pc := 1) K cl_7 hin_X7 (k := 0) (by decide) tb_187 rfl e2 dX7_height_1 ?_
  replace h := Option.bind_eq_some_iff.mp h
  obtain ⟨a3, rfl, h⟩ := h
  replace h := Option.bind_eq_some_iff.mp h
  obtain ⟨x4, e5, h⟩ := h
  refine g_getI (pc := 4) K cl_6 hin_X6 (k := 5) (by decide) tb_89 rfl e5 dX7_height_4 ?_
  cases h
  exact hT _ _ 7 _ (by omega) (by omega) dX7_height_7

def f_X7_root (p0 : Nat) (σ : sw_S) : Option Int32 :=
  (sw_gR 7 p0 0 σ).bind fun r1 =>
  r1.bind fun a3 =>
  (sw_gR 6 a3 4 σ).bind fun r4 =>
  r4.bind fun a6 =>
  (sw_gI 1 a6 7 σ).bind fun x7 =>
  some x7
set_option maxHeartbeats 4000000 in
set_option maxRecDepth 100000 in
theorem c_X7_root  (l : Launch) (D : va_G) (cT : Nat → ClassId) (p0 : Nat) (σ : sw_S) {r : Int32} (h : f_X7_root p0 σ = some r) : sw_M l D cT yX7_root cX7_root 1 (some .int) 0 0 0 0 σ [P_ (some p0)] (some (I_ r)) σ := by
  refine sw_met_i (by decide) (Nat.le_of_ble_eq_true rfl) (fun p e s m args below meth c A Q K hnm hT => ?_)
  have hce : 0 + 0 ≤ 0 := Nat.le_of_ble_eq_true rfl
  have hsl : 0 + 0 ≤ 0 := Nat.le_of_ble_eq_true rfl
  unfold f_X7_root at h
  change sw_G p l e (sw_R 0 0 0 0) s m args below meth c Q 1 A D cT σ 0 0 0 [(0, P_ (some p0))] []
  refine g_aload_n (pc := 0) K 0 rfl rfl dX7_root_0 ?_
  replace h := Option.bind_eq_some_iff.mp h
  obtain ⟨r1, e2, h⟩ := h
  refine g_getR (pc := 1) K cl_7 hin_X7 (k := 0) (by decide) tb_187 rfl e2 dX7_root_1 ?_
  replace h := Option.bind_eq_some_iff.mp h
  obtain ⟨a3, rfl, h⟩ := h
  replace h := Option.bind_eq_some_iff.mp h
  obtain ⟨r4, e5, h⟩ := h
  refine g_getR (pc := 4) K cl_6 hin_X6 (k := 4) (by decide) tb_87 rfl e5 dX7_root_4 ?_
  replace h := Option.bind_eq_some_iff.mp h
  obtain ⟨a6, rfl, h⟩ := h
  replace h := Option.bind_eq_some_iff.mp h
  obtain ⟨x7, e8, h⟩ := h
  refine g_getI (pc := 7) K cl_1 hin_X1 (k := 7) (by decide) tb_54 rfl e8 dX7_root_7 ?_
  cases h
  exact hT _ _ 10 _ (by omega) (by omega) dX7_root_10

def f_X7_within (p0 : Nat) (q1 : Int32) (q2 : Int32) (σ : sw_S) : Option Int32 :=
  (sw_gR 7 p0 0 σ).bind fun r1 =>
  r1.bind fun a3 =>
  (sw_ob 6 a3 σ).bind fun f4 =>
  (f_X6_entriesFromTo a3 q1 q2 σ).bind fun x7 =>
  some x7
set_option maxHeartbeats 4000000 in
set_option maxRecDepth 100000 in
theorem c_X7_within  (l : Launch) (D : va_G) (cT : Nat → ClassId) (p0 : Nat) (q1 : Int32) (q2 : Int32) (σ : sw_S) {r : Int32} (h : f_X7_within p0 q1 q2 σ = some r) : sw_M l D cT yX7_within cX7_within 3 (some .int) 10 256 0 0 σ [P_ (some p0), I_ q1, I_ q2] (some (I_ r)) σ := by
  refine sw_met_i (by decide) (Nat.le_of_ble_eq_true rfl) (fun p e s m args below meth c A Q K hnm hT => ?_)
  have hce : 0 + 0 ≤ 0 := Nat.le_of_ble_eq_true rfl
  have hsl : 0 + 0 ≤ 0 := Nat.le_of_ble_eq_true rfl
  unfold f_X7_within at h
  change sw_G p l e (sw_R 10 0 0 256) s m args below meth c Q 3 A D cT σ 0 0 0 [(0, P_ (some p0)), (1, I_ q1), (2, I_ q2)] []
  refine g_aload_n (pc := 0) K 0 rfl rfl dX7_within_0 ?_
  replace h := Option.bind_eq_some_iff.mp h
  obtain ⟨r1, e2, h⟩ := h
  refine g_getR (pc := 1) K cl_7 hin_X7 (k := 0) (by decide) tb_187 rfl e2 dX7_within_1 ?_
  refine g_iload_n (pc := 4) K 1 rfl rfl dX7_within_4 ?_
  refine g_iload_n (pc := 5) K 2 rfl rfl dX7_within_5 ?_
  replace h := Option.bind_eq_some_iff.mp h
  obtain ⟨a3, rfl, h⟩ := h
  replace h := Option.bind_eq_some_iff.mp h
  obtain ⟨f4, e5, h⟩ := h
  replace h := Option.bind_eq_some_iff.mp h
  obtain ⟨x7, e6, h⟩ := h
  refine g_callV (pc := 6) (st := []) K [I_ q1, I_ q2] (c_X6_entriesFromTo _ _ _ _ _ _ _ e6) e5 cl_6 rfl tb_305 tb_302 tb_2 tb_303 tb_304 hd_X6_entriesFromTo ⟨Nat.le_of_ble_eq_true rfl, Nat.le_of_ble_eq_true rfl⟩ rfl (sw_rm (Nat.le_of_ble_eq_true rfl)) ⟨by show _ ≤ 0; omega, by show _ ≤ 0; omega⟩ dX7_within_6 ?_
  cases h
  exact hT _ _ 9 _ (by omega) (by omega) dX7_within_9

def f_X7_prove (p0 : Nat) (q1 : Int32) (q2 : Int32) (q3 : Int32) (σ : sw_S) : Option (Int32 × sw_S) :=
  (if q1 ≤ q2 then
  (sw_gR 7 p0 1 σ).bind fun r2 =>
  r2.bind fun a4 =>
  (sw_pt 2 a4 1 (.int 0) σ).bind fun σ5 =>
  (some (sw_nw σ5 (.inr (3, [.null, .null])))).bind fun σ7 =>
  (sw_gR 7 p0 1 σ7).bind fun r9 =>
  (some (sw_nw σ7 (.inr (4, [.int 0, .int 0, .int 0])))).bind fun σ11 =>
  (f_X4_init σ7.1 q1 q2 q3 σ11).bind fun σ14 =>
  r9.bind fun a15 =>
  (f_X3_init σ5.1 a15 σ7.1 σ14).bind fun σ17 =>
  (sw_gR 7 p0 0 σ17).bind fun r18 =>
  r18.bind fun a20 =>
  (sw_gR 6 a20 4 σ17).bind fun r21 =>
  r21.bind fun a23 =>
  (sw_ob 3 σ5.1 σ17).bind fun f24 =>
  (f_X3_write 8 σ5.1 a23 ((-1099511627776)) 1099511627776 1 σ17).bind fun σ27 =>
  (sw_gR 7 p0 1 σ27).bind fun r28 =>
  r28.bind fun a30 =>
  (sw_gI 2 a30 1 σ27).bind fun x31 =>
  some (x31, σ27)
  else
  some ((-1), σ))
set_option maxHeartbeats 4000000 in
set_option maxRecDepth 100000 in
theorem c_X7_prove  (l : Launch) (D : va_G) (cT : Nat → ClassId) (p0 : Nat) (q1 : Int32) (q2 : Int32) (q3 : Int32) (σ : sw_S) {r : Int32} {σ' : sw_S} (h : f_X7_prove p0 q1 q2 q3 σ = some (r, σ')) : sw_M l D cT yX7_prove cX7_prove 4 (some .int) 25 666 2 5 σ [P_ (some p0), I_ q1, I_ q2, I_ q3] (some (I_ r)) σ' := by
  refine sw_met_i (by decide) (Nat.le_of_ble_eq_true rfl) (fun p e s m args below meth c A Q K hnm hT => ?_)
  have hce : 0 + 2 ≤ 2 := Nat.le_of_ble_eq_true rfl
  have hsl : 0 + 5 ≤ 5 := Nat.le_of_ble_eq_true rfl
  unfold f_X7_prove at h
  change sw_G p l e (sw_R 25 2 5 666) s m args below meth c Q 4 A D cT σ 0 0 0 [(0, P_ (some p0)), (1, I_ q1), (2, I_ q2), (3, I_ q3)] []
  refine g_iload_n (pc := 0) K 1 rfl rfl dX7_prove_0 ?_
  refine g_iload_n (pc := 1) K 2 rfl rfl dX7_prove_1 ?_
  refine g_icmp_le (pc := 2) K 7 dX7_prove_2 (by decide) (fun c1 => ?_) (fun c1 => ?_)
  · replace h := (if_pos c1).symm.trans h
    refine g_aload_n (pc := 7) K 0 rfl rfl dX7_prove_7 ?_
    replace h := Option.bind_eq_some_iff.mp h
    obtain ⟨r2, e3, h⟩ := h
    refine g_getR (pc := 8) K cl_7 hin_X7 (k := 1) (by decide) tb_188 rfl e3 dX7_prove_8 ?_
    refine g_iconst (pc := 11) (v := 0) K dX7_prove_11 (by decide) ?_
    replace h := Option.bind_eq_some_iff.mp h
    obtain ⟨a4, rfl, h⟩ := h
    replace h := Option.bind_eq_some_iff.mp h
    obtain ⟨σ5, e6, h⟩ := h
    refine g_put (pc := 12) K cl_2 hin_X2 (k := 1) (by decide) tb_114 rfl tyX2 tyX2_ok nmX2 (Or.inl rfl) rfl rfl e6 dX7_prove_12 ?_
    replace h := Option.bind_eq_some_iff.mp h
    obtain ⟨σ7, e8, h⟩ := h
    replace e8 := Option.some.inj e8
    refine g_new (pc := 15) K 3 [.null, .null] cl_3 hin_X3 tyX3 tyX3_ok tb_314 tb_315 tb_8 fs_X3 (by show _ ≤ 2; omega) (by show _ ≤ 5; omega) dX7_prove_15 ?_
    rw [e8]
    refine g_dup (pc := 18) K rfl dX7_prove_18 ?_
    refine g_aload_n (pc := 19) K 0 rfl rfl dX7_prove_19 ?_
    replace h := Option.bind_eq_some_iff.mp h
    obtain ⟨r9, e10, h⟩ := h
    refine g_getR (pc := 20) K cl_7 hin_X7 (k := 1) (by decide) tb_188 rfl e10 dX7_prove_20 ?_
    replace h := Option.bind_eq_some_iff.mp h
    obtain ⟨σ11, e12, h⟩ := h
    replace e12 := Option.some.inj e12
    refine g_new (pc := 23) K 4 [.int 0, .int 0, .int 0] cl_4 hin_X4 tyX4 tyX4_ok tb_316 tb_317 tb_9 fs_X4 (by show _ ≤ 2; omega) (by show _ ≤ 5; omega) dX7_prove_23 ?_
    rw [e12]
    refine g_dup (pc := 26) K rfl dX7_prove_26 ?_
    refine g_iload_n (pc := 27) K 1 rfl rfl dX7_prove_27 ?_
    refine g_iload_n (pc := 28) K 2 rfl rfl dX7_prove_28 ?_
    refine g_iload_n (pc := 29) K 3 rfl rfl dX7_prove_29 ?_
    replace h := Option.bind_eq_some_iff.mp h
    obtain ⟨σ14, e13, h⟩ := h
    refine g_callI (pc := 30) (st := [P_ (some σ7.1), P_ r9, P_ (some σ5.1), P_ (some σ5.1)]) K [I_ q1, I_ q2, I_ q3] (c_X4_init _ _ _ _ _ _ _ _ e13) tb_320 tb_318 tb_9 tb_319 rfl hd_X4_init ⟨Nat.le_of_ble_eq_true rfl, Nat.le_of_ble_eq_true rfl⟩ rfl (sw_rm (Nat.le_of_ble_eq_true rfl)) ⟨by show _ ≤ 2; omega, by show _ ≤ 5; omega⟩ dX7_prove_30 ?_
    replace h := Option.bind_eq_some_iff.mp h
    obtain ⟨a15, rfl, h⟩ := h
    replace h := Option.bind_eq_some_iff.mp h
    obtain ⟨σ17, e16, h⟩ := h
    refine g_callI (pc := 33) (st := [P_ (some σ5.1)]) K [P_ (some a15), P_ (some σ7.1)] (c_X3_init _ _ _ _ _ _ _ e16) tb_334 tb_332 tb_8 tb_333 rfl hd_X3_init ⟨Nat.le_of_ble_eq_true rfl, Nat.le_of_ble_eq_true rfl⟩ rfl (sw_rm (Nat.le_of_ble_eq_true rfl)) ⟨by show _ ≤ 2; omega, by show _ ≤ 5; omega⟩ dX7_prove_33 ?_
    refine g_aload_n (pc := 36) K 0 rfl rfl dX7_prove_36 ?_
    replace h := Option.bind_eq_some_iff.mp h
    obtain ⟨r18, e19, h⟩ := h
    refine g_getR (pc := 37) K cl_7 hin_X7 (k := 0) (by decide) tb_187 rfl e19 dX7_prove_37 ?_
    replace h := Option.bind_eq_some_iff.mp h
    obtain ⟨a20, rfl, h⟩ := h
    replace h := Option.bind_eq_some_iff.mp h
    obtain ⟨r21, e22, h⟩ := h
    refine g_getR (pc := 40) K cl_6 hin_X6 (k := 4) (by decide) tb_87 rfl e22 dX7_prove_40 ?_
    refine g_ldc2 (pc := 43) (v := (-1099511627776)) K tb_343 dX7_prove_43 ?_
    refine g_ldc2 (pc := 46) (v := 1099511627776) K tb_344 dX7_prove_46 ?_
    refine g_iconst (pc := 49) (v := 1) K dX7_prove_49 (by decide) ?_
    replace h := Option.bind_eq_some_iff.mp h
    obtain ⟨a23, rfl, h⟩ := h
    replace h := Option.bind_eq_some_iff.mp h
    obtain ⟨f24, e25, h⟩ := h
    replace h := Option.bind_eq_some_iff.mp h
    obtain ⟨σ27, e26, h⟩ := h
    refine g_callV (pc := 50) (st := []) K [P_ (some a23), J_ ((-1099511627776)), J_ 1099511627776, I_ 1] (c_X3_write _ _ _ 8 _ _ _ _ _ _ e26) e25 cl_3 rfl tb_348 tb_345 tb_8 tb_346 tb_347 hd_X3_write ⟨Nat.le_of_ble_eq_true rfl, Nat.le_of_ble_eq_true rfl⟩ rfl (sw_rm (Nat.le_of_ble_eq_true rfl)) ⟨by show _ ≤ 2; omega, by show _ ≤ 5; omega⟩ dX7_prove_50 ?_
    refine g_aload_n (pc := 53) K 0 rfl rfl dX7_prove_53 ?_
    replace h := Option.bind_eq_some_iff.mp h
    obtain ⟨r28, e29, h⟩ := h
    refine g_getR (pc := 54) K cl_7 hin_X7 (k := 1) (by decide) tb_188 rfl e29 dX7_prove_54 ?_
    replace h := Option.bind_eq_some_iff.mp h
    obtain ⟨a30, rfl, h⟩ := h
    replace h := Option.bind_eq_some_iff.mp h
    obtain ⟨x31, e32, h⟩ := h
    refine g_getI (pc := 57) K cl_2 hin_X2 (k := 1) (by decide) tb_114 rfl e32 dX7_prove_57 ?_
    cases h
    exact hT _ _ 60 _ (by omega) (by omega) dX7_prove_60
  · replace h := (if_neg c1).symm.trans h
    refine g_iconst (pc := 5) (v := (-1)) K dX7_prove_5 (by decide) ?_
    cases h
    exact hT _ _ 6 _ (by omega) (by omega) dX7_prove_6

def b_X7_token_24 (t0 : Int32) (σ : sw_S) : Option Int32 :=
  some t0
set_option maxHeartbeats 4000000 in
set_option maxRecDepth 100000 in
theorem w_X7_token_24 {p : Program} {l : Launch} {e : Env} {s : State} {m : MethodId} {args : Array Value} {below : List Frame} {meth : Method} {c : Code} {Q : State → Prop} {A : Nat → Prop} {D : va_G} {cT : Nat → ClassId} {σ : sw_S}  {r : Int32}  (K : sw_C p s m args c cX7_token 2 RX7 A D cT) (hT : sw_Ti cX7_token p l e (sw_R 1 0 0 21) s m args below meth c Q 2 A D cT 0 0 σ r) (t0 : Int32) (ce sl : Nat) (h : b_X7_token_24 t0 σ = some r) (hce : ce + (0) ≤ 0) (hsl : sl + (0) ≤ 0) : sw_G p l e (sw_R 1 0 0 21) s m args below meth c Q 2 A D cT σ ce sl 24 [] [I_ t0] := by
  unfold b_X7_token_24 at h
  cases h
  exact hT _ _ 24 _ (by omega) (by omega) dX7_token_24
def f_X7_token (p0 : Nat) (q1 : Int32) (σ : sw_S) : Option Int32 :=
  (sw_gR 7 p0 1 σ).bind fun r1 =>
  r1.bind fun a3 =>
  (sw_ob 2 a3 σ).bind fun f4 =>
  (f_X2_has a3 q1 σ).bind fun x7 =>
  (if x7 = 0 then
  b_X7_token_24 0 σ
  else
  (sw_gR 7 p0 1 σ).bind fun r9 =>
  r9.bind fun a11 =>
  (sw_gR 2 a11 0 σ).bind fun r12 =>
  r12.bind fun a14 =>
  (sw_al 0 a14 q1 σ).bind fun x16 =>
  b_X7_token_24 x16 σ)
set_option maxHeartbeats 4000000 in
set_option maxRecDepth 100000 in
theorem c_X7_token  (l : Launch) (D : va_G) (cT : Nat → ClassId) (p0 : Nat) (q1 : Int32) (σ : sw_S) {r : Int32} (h : f_X7_token p0 q1 σ = some r) : sw_M l D cT yX7_token cX7_token 2 (some .int) 1 21 0 0 σ [P_ (some p0), I_ q1] (some (I_ r)) σ := by
  refine sw_met_i (by decide) (Nat.le_of_ble_eq_true rfl) (fun p e s m args below meth c A Q K hnm hT => ?_)
  have hce : 0 + 0 ≤ 0 := Nat.le_of_ble_eq_true rfl
  have hsl : 0 + 0 ≤ 0 := Nat.le_of_ble_eq_true rfl
  unfold f_X7_token at h
  change sw_G p l e (sw_R 1 0 0 21) s m args below meth c Q 2 A D cT σ 0 0 0 [(0, P_ (some p0)), (1, I_ q1)] []
  refine g_aload_n (pc := 0) K 0 rfl rfl dX7_token_0 ?_
  replace h := Option.bind_eq_some_iff.mp h
  obtain ⟨r1, e2, h⟩ := h
  refine g_getR (pc := 1) K cl_7 hin_X7 (k := 1) (by decide) tb_188 rfl e2 dX7_token_1 ?_
  refine g_iload_n (pc := 4) K 1 rfl rfl dX7_token_4 ?_
  replace h := Option.bind_eq_some_iff.mp h
  obtain ⟨a3, rfl, h⟩ := h
  replace h := Option.bind_eq_some_iff.mp h
  obtain ⟨f4, e5, h⟩ := h
  replace h := Option.bind_eq_some_iff.mp h
  obtain ⟨x7, e6, h⟩ := h
  refine g_callV (pc := 5) (st := []) K [I_ q1] (c_X2_has _ _ _ _ _ _ e6) e5 cl_2 rfl tb_385 tb_382 tb_4 tb_383 tb_384 hd_X2_has ⟨Nat.le_of_ble_eq_true rfl, Nat.le_of_ble_eq_true rfl⟩ rfl (sw_rm (Nat.le_of_ble_eq_true rfl)) ⟨by show _ ≤ 0; omega, by show _ ≤ 0; omega⟩ dX7_token_5 ?_
  refine g_if_eq (pc := 8) K 23 dX7_token_8 (by decide) (fun c8 => ?_) (fun c8 => ?_)
  · replace h := (if_pos c8).symm.trans h
    refine g_iconst (pc := 23) (v := 0) K dX7_token_23 (by decide) ?_
    refine g_sub K [] rfl ?_
    exact w_X7_token_24 K hT  _ _ _ h (by omega) (by omega)
  · replace h := (if_neg c8).symm.trans h
    refine g_aload_n (pc := 11) K 0 rfl rfl dX7_token_11 ?_
    replace h := Option.bind_eq_some_iff.mp h
    obtain ⟨r9, e10, h⟩ := h
    refine g_getR (pc := 12) K cl_7 hin_X7 (k := 1) (by decide) tb_188 rfl e10 dX7_token_12 ?_
    replace h := Option.bind_eq_some_iff.mp h
    obtain ⟨a11, rfl, h⟩ := h
    replace h := Option.bind_eq_some_iff.mp h
    obtain ⟨r12, e13, h⟩ := h
    refine g_getR (pc := 15) K cl_2 hin_X2 (k := 0) (by decide) tb_111 rfl e13 dX7_token_15 ?_
    refine g_iload_n (pc := 18) K 1 rfl rfl dX7_token_18 ?_
    replace h := Option.bind_eq_some_iff.mp h
    obtain ⟨a14, rfl, h⟩ := h
    replace h := Option.bind_eq_some_iff.mp h
    obtain ⟨x16, e15, h⟩ := h
    refine g_iald (pc := 19) K e15 dX7_token_19 ?_
    refine g_goto (pc := 20) (tgt := 24) K dX7_token_20 (by decide) ?_
    refine g_sub K [] rfl ?_
    exact w_X7_token_24 K hT  _ _ _ h (by omega) (by omega)

def f_X7_alter (p0 : Nat) (q1 : Int32) (q2 : Int32) (σ : sw_S) : Option (Int32 × sw_S) :=
  (sw_gR 7 p0 1 σ).bind fun r1 =>
  r1.bind fun a3 =>
  (sw_ob 2 a3 σ).bind fun f4 =>
  (f_X2_has a3 q1 σ).bind fun x7 =>
  (if x7 = 0 then
  some (0, σ)
  else
  (sw_gR 7 p0 1 σ).bind fun r9 =>
  r9.bind fun a11 =>
  (sw_gR 2 a11 0 σ).bind fun r12 =>
  r12.bind fun a14 =>
  (sw_as 0 a14 q1 q2 σ).bind fun σ16 =>
  some (1, σ16))
set_option maxHeartbeats 4000000 in
set_option maxRecDepth 100000 in
theorem c_X7_alter  (l : Launch) (D : va_G) (cT : Nat → ClassId) (p0 : Nat) (q1 : Int32) (q2 : Int32) (σ : sw_S) {r : Int32} {σ' : sw_S} (h : f_X7_alter p0 q1 q2 σ = some (r, σ')) : sw_M l D cT yX7_alter cX7_alter 3 (some .boolean) 1 21 0 0 σ [P_ (some p0), I_ q1, I_ q2] (some (I_ r)) σ' := by
  refine sw_met_z (by decide) (Nat.le_of_ble_eq_true rfl) (fun p e s m args below meth c A Q K hnm hT => ?_)
  have hce : 0 + 0 ≤ 0 := Nat.le_of_ble_eq_true rfl
  have hsl : 0 + 0 ≤ 0 := Nat.le_of_ble_eq_true rfl
  unfold f_X7_alter at h
  change sw_G p l e (sw_R 1 0 0 21) s m args below meth c Q 3 A D cT σ 0 0 0 [(0, P_ (some p0)), (1, I_ q1), (2, I_ q2)] []
  refine g_aload_n (pc := 0) K 0 rfl rfl dX7_alter_0 ?_
  replace h := Option.bind_eq_some_iff.mp h
  obtain ⟨r1, e2, h⟩ := h
  refine g_getR (pc := 1) K cl_7 hin_X7 (k := 1) (by decide) tb_188 rfl e2 dX7_alter_1 ?_
  refine g_iload_n (pc := 4) K 1 rfl rfl dX7_alter_4 ?_
  replace h := Option.bind_eq_some_iff.mp h
  obtain ⟨a3, rfl, h⟩ := h
  replace h := Option.bind_eq_some_iff.mp h
  obtain ⟨f4, e5, h⟩ := h
  replace h := Option.bind_eq_some_iff.mp h
  obtain ⟨x7, e6, h⟩ := h
  refine g_callV (pc := 5) (st := []) K [I_ q1] (c_X2_has _ _ _ _ _ _ e6) e5 cl_2 rfl tb_385 tb_382 tb_4 tb_383 tb_384 hd_X2_has ⟨Nat.le_of_ble_eq_true rfl, Nat.le_of_ble_eq_true rfl⟩ rfl (sw_rm (Nat.le_of_ble_eq_true rfl)) ⟨by show _ ≤ 0; omega, by show _ ≤ 0; omega⟩ dX7_alter_5 ?_
  refine g_if_ne (pc := 8) K 13 dX7_alter_8 (by decide) (fun c8 => ?_) (fun c8 => ?_)
  · replace h := (if_pos c8).symm.trans h
    refine g_iconst (pc := 11) (v := 0) K dX7_alter_11 (by decide) ?_
    cases h
    exact hT _ _ 12 _ (by omega) (by omega) rfl dX7_alter_12
  · replace h := (if_neg c8).symm.trans h
    refine g_aload_n (pc := 13) K 0 rfl rfl dX7_alter_13 ?_
    replace h := Option.bind_eq_some_iff.mp h
    obtain ⟨r9, e10, h⟩ := h
    refine g_getR (pc := 14) K cl_7 hin_X7 (k := 1) (by decide) tb_188 rfl e10 dX7_alter_14 ?_
    replace h := Option.bind_eq_some_iff.mp h
    obtain ⟨a11, rfl, h⟩ := h
    replace h := Option.bind_eq_some_iff.mp h
    obtain ⟨r12, e13, h⟩ := h
    refine g_getR (pc := 17) K cl_2 hin_X2 (k := 0) (by decide) tb_111 rfl e13 dX7_alter_17 ?_
    refine g_iload_n (pc := 20) K 1 rfl rfl dX7_alter_20 ?_
    refine g_iload_n (pc := 21) K 2 rfl rfl dX7_alter_21 ?_
    replace h := Option.bind_eq_some_iff.mp h
    obtain ⟨a14, rfl, h⟩ := h
    replace h := Option.bind_eq_some_iff.mp h
    obtain ⟨σ16, e15, h⟩ := h
    refine g_iast (pc := 22) K e15 dX7_alter_22 ?_
    refine g_iconst (pc := 23) (v := 1) K dX7_alter_23 (by decide) ?_
    cases h
    exact hT _ _ 24 _ (by omega) (by omega) rfl dX7_alter_24

def b_X7_trim_15 (σ : sw_S) : Option (Int32 × sw_S) :=
  some (0, σ)
set_option maxHeartbeats 4000000 in
set_option maxRecDepth 100000 in
theorem w_X7_trim_15 {p : Program} {l : Launch} {e : Env} {s : State} {m : MethodId} {args : Array Value} {below : List Frame} {meth : Method} {c : Code} {Q : State → Prop} {A : Nat → Prop} {D : va_G} {cT : Nat → ClassId} {r : Int32}  {σ' : sw_S}  (K : sw_C p s m args c cX7_trim 2 RX7 A D cT) (hT : sw_Tz cX7_trim p l e (sw_R 0 0 0 0) s m args below meth c Q 2 A D cT 0 0 σ' r) (σ : sw_S)  (ce sl : Nat) (h : b_X7_trim_15  σ = some (r, σ')) (hce : ce + (0) ≤ 0) (hsl : sl + (0) ≤ 0) : sw_G p l e (sw_R 0 0 0 0) s m args below meth c Q 2 A D cT σ ce sl 15 [] [] := by
  unfold b_X7_trim_15 at h
  refine g_iconst (pc := 15) (v := 0) K dX7_trim_15 (by decide) ?_
  cases h
  exact hT _ _ 16 _ (by omega) (by omega) rfl dX7_trim_16
def f_X7_trim (p0 : Nat) (q1 : Int32) (σ : sw_S) : Option (Int32 × sw_S) :=
  (if q1 < 0 then
  b_X7_trim_15 σ
  else
  (sw_gR 7 p0 1 σ).bind fun r2 =>
  r2.bind fun a4 =>
  (sw_gI 2 a4 1 σ).bind fun x5 =>
  (if q1 ≤ x5 then
  (sw_gR 7 p0 1 σ).bind fun r8 =>
  r8.bind fun a10 =>
  (sw_pt 2 a10 1 (.int q1) σ).bind fun σ11 =>
  some (1, σ11)
  else
  b_X7_trim_15 σ))
set_option maxHeartbeats 4000000 in
set_option maxRecDepth 100000 in
theorem c_X7_trim  (l : Launch) (D : va_G) (cT : Nat → ClassId) (p0 : Nat) (q1 : Int32) (σ : sw_S) {r : Int32} {σ' : sw_S} (h : f_X7_trim p0 q1 σ = some (r, σ')) : sw_M l D cT yX7_trim cX7_trim 2 (some .boolean) 0 0 0 0 σ [P_ (some p0), I_ q1] (some (I_ r)) σ' := by
  refine sw_met_z (by decide) (Nat.le_of_ble_eq_true rfl) (fun p e s m args below meth c A Q K hnm hT => ?_)
  have hce : 0 + 0 ≤ 0 := Nat.le_of_ble_eq_true rfl
  have hsl : 0 + 0 ≤ 0 := Nat.le_of_ble_eq_true rfl
  unfold f_X7_trim at h
  change sw_G p l e (sw_R 0 0 0 0) s m args below meth c Q 2 A D cT σ 0 0 0 [(0, P_ (some p0)), (1, I_ q1)] []
  refine g_iload_n (pc := 0) K 1 rfl rfl dX7_trim_0 ?_
  refine g_if_lt (pc := 1) K 15 dX7_trim_1 (by decide) (fun c1 => ?_) (fun c1 => ?_)
  · replace h := (if_pos c1).symm.trans h
    refine g_sub K [] rfl ?_
    exact w_X7_trim_15 K hT   _ _ _ h (by omega) (by omega)
  · replace h := (if_neg c1).symm.trans h
    refine g_iload_n (pc := 4) K 1 rfl rfl dX7_trim_4 ?_
    refine g_aload_n (pc := 5) K 0 rfl rfl dX7_trim_5 ?_
    replace h := Option.bind_eq_some_iff.mp h
    obtain ⟨r2, e3, h⟩ := h
    refine g_getR (pc := 6) K cl_7 hin_X7 (k := 1) (by decide) tb_188 rfl e3 dX7_trim_6 ?_
    replace h := Option.bind_eq_some_iff.mp h
    obtain ⟨a4, rfl, h⟩ := h
    replace h := Option.bind_eq_some_iff.mp h
    obtain ⟨x5, e6, h⟩ := h
    refine g_getI (pc := 9) K cl_2 hin_X2 (k := 1) (by decide) tb_114 rfl e6 dX7_trim_9 ?_
    refine g_icmp_le (pc := 12) K 17 dX7_trim_12 (by decide) (fun c7 => ?_) (fun c7 => ?_)
    · replace h := (if_pos c7).symm.trans h
      refine g_aload_n (pc := 17) K 0 rfl rfl dX7_trim_17 ?_
      replace h := Option.bind_eq_some_iff.mp h
      obtain ⟨r8, e9, h⟩ := h
      refine g_getR (pc := 18) K cl_7 hin_X7 (k := 1) (by decide) tb_188 rfl e9 dX7_trim_18 ?_
      refine g_iload_n (pc := 21) K 1 rfl rfl dX7_trim_21 ?_
      replace h := Option.bind_eq_some_iff.mp h
      obtain ⟨a10, rfl, h⟩ := h
      replace h := Option.bind_eq_some_iff.mp h
      obtain ⟨σ11, e12, h⟩ := h
      refine g_put (pc := 22) K cl_2 hin_X2 (k := 1) (by decide) tb_114 rfl tyX2 tyX2_ok nmX2 (Or.inl rfl) rfl rfl e12 dX7_trim_22 ?_
      refine g_iconst (pc := 25) (v := 1) K dX7_trim_25 (by decide) ?_
      cases h
      exact hT _ _ 26 _ (by omega) (by omega) rfl dX7_trim_26
    · replace h := (if_neg c7).symm.trans h
      refine g_sub K [] rfl ?_
      exact w_X7_trim_15 K hT   _ _ _ h (by omega) (by omega)

def b_X7_check_30 (σ : sw_S) : Option (Int32 × sw_S) :=
  some ((-1), σ)
set_option maxHeartbeats 4000000 in
set_option maxRecDepth 100000 in
theorem w_X7_check_30 {p : Program} {l : Launch} {e : Env} {s : State} {m : MethodId} {args : Array Value} {below : List Frame} {meth : Method} {c : Code} {Q : State → Prop} {A : Nat → Prop} {D : va_G} {cT : Nat → ClassId} {r : Int32}  {σ' : sw_S}  (K : sw_C p s m args c cX7_check 5 RX7 A D cT) (hT : sw_Ti cX7_check p l e (sw_R 42 1 3 934) s m args below meth c Q 5 A D cT 1 3 σ' r) (σ : sw_S)  (ce sl : Nat) (h : b_X7_check_30  σ = some (r, σ')) (hce : ce + (0) ≤ 1) (hsl : sl + (0) ≤ 3) : sw_G p l e (sw_R 42 1 3 934) s m args below meth c Q 5 A D cT σ ce sl 30 [] [] := by
  unfold b_X7_check_30 at h
  refine g_iconst (pc := 30) (v := (-1)) K dX7_check_30 (by decide) ?_
  cases h
  exact hT _ _ 31 _ (by omega) (by omega) dX7_check_31
def f_X7_check (p0 : Nat) (q1 : Int32) (q2 : Int32) (q3 : Int32) (σ : sw_S) : Option (Int32 × sw_S) :=
  (some (sw_nw σ (.inr (4, [.int 0, .int 0, .int 0])))).bind fun σ1 =>
  (f_X4_init σ.1 q2 q3 0 σ1).bind fun σ4 =>
  (if q3 < q2 then
  b_X7_check_30 σ4
  else
  (sw_gR 7 p0 2 σ4).bind fun r6 =>
  r6.bind fun a8 =>
  (sw_ob 0 a8 σ4).bind fun f9 =>
  sw_b2 (f_X0_accepts a8 q1 σ.1 σ4) fun x12 σ13 =>
  (if x12 = 0 then
  b_X7_check_30 σ13
  else
  (sw_gR 7 p0 2 σ13).bind fun r15 =>
  (sw_gR 7 p0 3 σ13).bind fun r17 =>
  r17.bind fun a19 =>
  r15.bind fun a20 =>
  (sw_ob 0 a20 σ13).bind fun f21 =>
  (f_X0_copyRows a20 σ.1 a19 σ13).bind fun σ24 =>
  (sw_gR 7 p0 3 σ24).bind fun r25 =>
  r25.bind fun a27 =>
  (sw_gI 5 a27 2 σ24).bind fun x28 =>
  some (x28, σ24)))
set_option maxHeartbeats 4000000 in
set_option maxRecDepth 100000 in
theorem c_X7_check  (l : Launch) (D : va_G) (cT : Nat → ClassId) (p0 : Nat) (q1 : Int32) (q2 : Int32) (q3 : Int32) (σ : sw_S) {r : Int32} {σ' : sw_S} (h : f_X7_check p0 q1 q2 q3 σ = some (r, σ')) : sw_M l D cT yX7_check cX7_check 5 (some .int) 42 934 1 3 σ [P_ (some p0), I_ q1, I_ q2, I_ q3] (some (I_ r)) σ' := by
  refine sw_met_i (by decide) (Nat.le_of_ble_eq_true rfl) (fun p e s m args below meth c A Q K hnm hT => ?_)
  have hce : 0 + 1 ≤ 1 := Nat.le_of_ble_eq_true rfl
  have hsl : 0 + 3 ≤ 3 := Nat.le_of_ble_eq_true rfl
  unfold f_X7_check at h
  change sw_G p l e (sw_R 42 1 3 934) s m args below meth c Q 5 A D cT σ 0 0 0 [(0, P_ (some p0)), (1, I_ q1), (2, I_ q2), (3, I_ q3)] []
  replace h := Option.bind_eq_some_iff.mp h
  obtain ⟨σ1, e2, h⟩ := h
  replace e2 := Option.some.inj e2
  refine g_new (pc := 0) K 4 [.int 0, .int 0, .int 0] cl_4 hin_X4 tyX4 tyX4_ok tb_316 tb_317 tb_9 fs_X4 (by show _ ≤ 1; omega) (by show _ ≤ 3; omega) dX7_check_0 ?_
  rw [e2]
  refine g_dup (pc := 3) K rfl dX7_check_3 ?_
  refine g_iload_n (pc := 4) K 2 rfl rfl dX7_check_4 ?_
  refine g_iload_n (pc := 5) K 3 rfl rfl dX7_check_5 ?_
  refine g_iconst (pc := 6) (v := 0) K dX7_check_6 (by decide) ?_
  replace h := Option.bind_eq_some_iff.mp h
  obtain ⟨σ4, e3, h⟩ := h
  refine g_callI (pc := 7) (st := [P_ (some σ.1)]) K [I_ q2, I_ q3, I_ 0] (c_X4_init _ _ _ _ _ _ _ _ e3) tb_320 tb_318 tb_9 tb_319 rfl hd_X4_init ⟨Nat.le_of_ble_eq_true rfl, Nat.le_of_ble_eq_true rfl⟩ rfl (sw_rm (Nat.le_of_ble_eq_true rfl)) ⟨by show _ ≤ 1; omega, by show _ ≤ 3; omega⟩ dX7_check_7 ?_
  refine g_astore (pc := 10) K [(4, P_ (some σ.1)), (0, P_ (some p0)), (1, I_ q1), (2, I_ q2), (3, I_ q3)] (by decide) rfl dX7_check_10 ?_
  refine g_iload_n (pc := 12) K 3 rfl rfl dX7_check_12 ?_
  refine g_iload_n (pc := 13) K 4 rfl rfl dX7_check_13 ?_
  refine g_icmp_gt (pc := 14) K 30 dX7_check_14 (by decide) (fun c5 => ?_) (fun c5 => ?_)
  · replace h := (if_pos c5).symm.trans h
    refine g_sub K [] rfl ?_
    exact w_X7_check_30 K hT   _ _ _ h (by omega) (by omega)
  · replace h := (if_neg c5).symm.trans h
    refine g_aload_n (pc := 17) K 1 rfl rfl dX7_check_17 ?_
    replace h := Option.bind_eq_some_iff.mp h
    obtain ⟨r6, e7, h⟩ := h
    refine g_getR (pc := 18) K cl_7 hin_X7 (k := 2) (by decide) tb_189 rfl e7 dX7_check_18 ?_
    refine g_iload_n (pc := 21) K 2 rfl rfl dX7_check_21 ?_
    refine g_aload (pc := 22) K 0 rfl dX7_check_22 ?_
    replace h := Option.bind_eq_some_iff.mp h
    obtain ⟨a8, rfl, h⟩ := h
    replace h := Option.bind_eq_some_iff.mp h
    obtain ⟨f9, e10, h⟩ := h
    replace h := sw_b2_eq h
    obtain ⟨x12, σ13, e11, h⟩ := h
    refine g_callV (pc := 24) (st := []) K [I_ q1, P_ (some σ.1)] (c_X0_accepts _ _ _ _ _ _ _ e11) e10 cl_0 rfl tb_401 tb_398 tb_5 tb_399 tb_400 hd_X0_accepts ⟨Nat.le_of_ble_eq_true rfl, Nat.le_of_ble_eq_true rfl⟩ rfl (sw_rm (Nat.le_of_ble_eq_true rfl)) ⟨by show _ ≤ 1; omega, by show _ ≤ 3; omega⟩ dX7_check_24 ?_
    refine g_if_ne (pc := 27) K 32 dX7_check_27 (by decide) (fun c14 => ?_) (fun c14 => ?_)
    · replace h := (if_pos c14).symm.trans h
      refine g_sub K [] rfl ?_
      exact w_X7_check_30 K hT   _ _ _ h (by omega) (by omega)
    · replace h := (if_neg c14).symm.trans h
      refine g_aload_n (pc := 32) K 1 rfl rfl dX7_check_32 ?_
      replace h := Option.bind_eq_some_iff.mp h
      obtain ⟨r15, e16, h⟩ := h
      refine g_getR (pc := 33) K cl_7 hin_X7 (k := 2) (by decide) tb_189 rfl e16 dX7_check_33 ?_
      refine g_aload (pc := 36) K 0 rfl dX7_check_36 ?_
      refine g_aload_n (pc := 38) K 1 rfl rfl dX7_check_38 ?_
      replace h := Option.bind_eq_some_iff.mp h
      obtain ⟨r17, e18, h⟩ := h
      refine g_getR (pc := 39) K cl_7 hin_X7 (k := 3) (by decide) tb_190 rfl e18 dX7_check_39 ?_
      replace h := Option.bind_eq_some_iff.mp h
      obtain ⟨a19, rfl, h⟩ := h
      replace h := Option.bind_eq_some_iff.mp h
      obtain ⟨a20, rfl, h⟩ := h
      replace h := Option.bind_eq_some_iff.mp h
      obtain ⟨f21, e22, h⟩ := h
      replace h := Option.bind_eq_some_iff.mp h
      obtain ⟨σ24, e23, h⟩ := h
      refine g_callV (pc := 42) (st := []) K [P_ (some σ.1), P_ (some a19)] (c_X0_copyRows _ _ _ _ _ _ _ e23) e22 cl_0 rfl tb_466 tb_463 tb_5 tb_464 tb_465 hd_X0_copyRows ⟨Nat.le_of_ble_eq_true rfl, Nat.le_of_ble_eq_true rfl⟩ rfl (sw_rm (Nat.le_of_ble_eq_true rfl)) ⟨by show _ ≤ 1; omega, by show _ ≤ 3; omega⟩ dX7_check_42 ?_
      refine g_aload_n (pc := 45) K 1 rfl rfl dX7_check_45 ?_
      replace h := Option.bind_eq_some_iff.mp h
      obtain ⟨r25, e26, h⟩ := h
      refine g_getR (pc := 46) K cl_7 hin_X7 (k := 3) (by decide) tb_190 rfl e26 dX7_check_46 ?_
      replace h := Option.bind_eq_some_iff.mp h
      obtain ⟨a27, rfl, h⟩ := h
      replace h := Option.bind_eq_some_iff.mp h
      obtain ⟨x28, e29, h⟩ := h
      refine g_getI (pc := 49) K cl_5 hin_X5 (k := 2) (by decide) tb_179 rfl e29 dX7_check_49 ?_
      cases h
      exact hT _ _ 52 _ (by omega) (by omega) dX7_check_52

def b_X7_count_30 (σ : sw_S) : Option (Int32 × sw_S) :=
  some ((-1), σ)
set_option maxHeartbeats 4000000 in
set_option maxRecDepth 100000 in
theorem w_X7_count_30 {p : Program} {l : Launch} {e : Env} {s : State} {m : MethodId} {args : Array Value} {below : List Frame} {meth : Method} {c : Code} {Q : State → Prop} {A : Nat → Prop} {D : va_G} {cT : Nat → ClassId} {r : Int32}  {σ' : sw_S}  (K : sw_C p s m args c cX7_count 5 RX7 A D cT) (hT : sw_Ti cX7_count p l e (sw_R 42 1 3 934) s m args below meth c Q 5 A D cT 1 3 σ' r) (σ : sw_S)  (ce sl : Nat) (h : b_X7_count_30  σ = some (r, σ')) (hce : ce + (0) ≤ 1) (hsl : sl + (0) ≤ 3) : sw_G p l e (sw_R 42 1 3 934) s m args below meth c Q 5 A D cT σ ce sl 30 [] [] := by
  unfold b_X7_count_30 at h
  refine g_iconst (pc := 30) (v := (-1)) K dX7_count_30 (by decide) ?_
  cases h
  exact hT _ _ 31 _ (by omega) (by omega) dX7_count_31
def f_X7_count (p0 : Nat) (q1 : Int32) (q2 : Int32) (q3 : Int32) (σ : sw_S) : Option (Int32 × sw_S) :=
  (some (sw_nw σ (.inr (4, [.int 0, .int 0, .int 0])))).bind fun σ1 =>
  (f_X4_init σ.1 q2 q3 1 σ1).bind fun σ4 =>
  (if q3 < q2 then
  b_X7_count_30 σ4
  else
  (sw_gR 7 p0 2 σ4).bind fun r6 =>
  r6.bind fun a8 =>
  (sw_ob 0 a8 σ4).bind fun f9 =>
  sw_b2 (f_X0_accepts a8 q1 σ.1 σ4) fun x12 σ13 =>
  (if x12 = 0 then
  b_X7_count_30 σ13
  else
  (sw_gR 7 p0 2 σ13).bind fun r15 =>
  r15.bind fun a17 =>
  (sw_ob 0 a17 σ13).bind fun f18 =>
  (f_X0_total a17 σ.1 σ13).bind fun x21 =>
  some (x21, σ13)))
set_option maxHeartbeats 4000000 in
set_option maxRecDepth 100000 in
theorem c_X7_count  (l : Launch) (D : va_G) (cT : Nat → ClassId) (p0 : Nat) (q1 : Int32) (q2 : Int32) (q3 : Int32) (σ : sw_S) {r : Int32} {σ' : sw_S} (h : f_X7_count p0 q1 q2 q3 σ = some (r, σ')) : sw_M l D cT yX7_count cX7_count 5 (some .int) 42 934 1 3 σ [P_ (some p0), I_ q1, I_ q2, I_ q3] (some (I_ r)) σ' := by
  refine sw_met_i (by decide) (Nat.le_of_ble_eq_true rfl) (fun p e s m args below meth c A Q K hnm hT => ?_)
  have hce : 0 + 1 ≤ 1 := Nat.le_of_ble_eq_true rfl
  have hsl : 0 + 3 ≤ 3 := Nat.le_of_ble_eq_true rfl
  unfold f_X7_count at h
  change sw_G p l e (sw_R 42 1 3 934) s m args below meth c Q 5 A D cT σ 0 0 0 [(0, P_ (some p0)), (1, I_ q1), (2, I_ q2), (3, I_ q3)] []
  replace h := Option.bind_eq_some_iff.mp h
  obtain ⟨σ1, e2, h⟩ := h
  replace e2 := Option.some.inj e2
  refine g_new (pc := 0) K 4 [.int 0, .int 0, .int 0] cl_4 hin_X4 tyX4 tyX4_ok tb_316 tb_317 tb_9 fs_X4 (by show _ ≤ 1; omega) (by show _ ≤ 3; omega) dX7_count_0 ?_
  rw [e2]
  refine g_dup (pc := 3) K rfl dX7_count_3 ?_
  refine g_iload_n (pc := 4) K 2 rfl rfl dX7_count_4 ?_
  refine g_iload_n (pc := 5) K 3 rfl rfl dX7_count_5 ?_
  refine g_iconst (pc := 6) (v := 1) K dX7_count_6 (by decide) ?_
  replace h := Option.bind_eq_some_iff.mp h
  obtain ⟨σ4, e3, h⟩ := h
  refine g_callI (pc := 7) (st := [P_ (some σ.1)]) K [I_ q2, I_ q3, I_ 1] (c_X4_init _ _ _ _ _ _ _ _ e3) tb_320 tb_318 tb_9 tb_319 rfl hd_X4_init ⟨Nat.le_of_ble_eq_true rfl, Nat.le_of_ble_eq_true rfl⟩ rfl (sw_rm (Nat.le_of_ble_eq_true rfl)) ⟨by show _ ≤ 1; omega, by show _ ≤ 3; omega⟩ dX7_count_7 ?_
  refine g_astore (pc := 10) K [(4, P_ (some σ.1)), (0, P_ (some p0)), (1, I_ q1), (2, I_ q2), (3, I_ q3)] (by decide) rfl dX7_count_10 ?_
  refine g_iload_n (pc := 12) K 3 rfl rfl dX7_count_12 ?_
  refine g_iload_n (pc := 13) K 4 rfl rfl dX7_count_13 ?_
  refine g_icmp_gt (pc := 14) K 30 dX7_count_14 (by decide) (fun c5 => ?_) (fun c5 => ?_)
  · replace h := (if_pos c5).symm.trans h
    refine g_sub K [] rfl ?_
    exact w_X7_count_30 K hT   _ _ _ h (by omega) (by omega)
  · replace h := (if_neg c5).symm.trans h
    refine g_aload_n (pc := 17) K 1 rfl rfl dX7_count_17 ?_
    replace h := Option.bind_eq_some_iff.mp h
    obtain ⟨r6, e7, h⟩ := h
    refine g_getR (pc := 18) K cl_7 hin_X7 (k := 2) (by decide) tb_189 rfl e7 dX7_count_18 ?_
    refine g_iload_n (pc := 21) K 2 rfl rfl dX7_count_21 ?_
    refine g_aload (pc := 22) K 0 rfl dX7_count_22 ?_
    replace h := Option.bind_eq_some_iff.mp h
    obtain ⟨a8, rfl, h⟩ := h
    replace h := Option.bind_eq_some_iff.mp h
    obtain ⟨f9, e10, h⟩ := h
    replace h := sw_b2_eq h
    obtain ⟨x12, σ13, e11, h⟩ := h
    refine g_callV (pc := 24) (st := []) K [I_ q1, P_ (some σ.1)] (c_X0_accepts _ _ _ _ _ _ _ e11) e10 cl_0 rfl tb_401 tb_398 tb_5 tb_399 tb_400 hd_X0_accepts ⟨Nat.le_of_ble_eq_true rfl, Nat.le_of_ble_eq_true rfl⟩ rfl (sw_rm (Nat.le_of_ble_eq_true rfl)) ⟨by show _ ≤ 1; omega, by show _ ≤ 3; omega⟩ dX7_count_24 ?_
    refine g_if_ne (pc := 27) K 32 dX7_count_27 (by decide) (fun c14 => ?_) (fun c14 => ?_)
    · replace h := (if_pos c14).symm.trans h
      refine g_sub K [] rfl ?_
      exact w_X7_count_30 K hT   _ _ _ h (by omega) (by omega)
    · replace h := (if_neg c14).symm.trans h
      refine g_aload_n (pc := 32) K 1 rfl rfl dX7_count_32 ?_
      replace h := Option.bind_eq_some_iff.mp h
      obtain ⟨r15, e16, h⟩ := h
      refine g_getR (pc := 33) K cl_7 hin_X7 (k := 2) (by decide) tb_189 rfl e16 dX7_count_33 ?_
      refine g_aload (pc := 36) K 0 rfl dX7_count_36 ?_
      replace h := Option.bind_eq_some_iff.mp h
      obtain ⟨a17, rfl, h⟩ := h
      replace h := Option.bind_eq_some_iff.mp h
      obtain ⟨f18, e19, h⟩ := h
      replace h := Option.bind_eq_some_iff.mp h
      obtain ⟨x21, e20, h⟩ := h
      refine g_callV (pc := 38) (st := []) K [P_ (some σ.1)] (c_X0_total _ _ _ _ _ _ e20) e19 cl_0 rfl tb_486 tb_483 tb_5 tb_484 tb_485 hd_X0_total ⟨Nat.le_of_ble_eq_true rfl, Nat.le_of_ble_eq_true rfl⟩ rfl (sw_rm (Nat.le_of_ble_eq_true rfl)) ⟨by show _ ≤ 1; omega, by show _ ≤ 3; omega⟩ dX7_count_38 ?_
      cases h
      exact hT _ _ 41 _ (by omega) (by omega) dX7_count_41

def b_X7_row_15 (σ : sw_S) : Option Int32 :=
  some 0
set_option maxHeartbeats 4000000 in
set_option maxRecDepth 100000 in
theorem w_X7_row_15 {p : Program} {l : Launch} {e : Env} {s : State} {m : MethodId} {args : Array Value} {below : List Frame} {meth : Method} {c : Code} {Q : State → Prop} {A : Nat → Prop} {D : va_G} {cT : Nat → ClassId} {σ : sw_S}  {r : Int32}  (K : sw_C p s m args c cX7_row 3 RX7 A D cT) (hT : sw_Ti cX7_row p l e (sw_R 0 0 0 0) s m args below meth c Q 3 A D cT 0 0 σ r) (ce sl : Nat) (h : b_X7_row_15  σ = some r) (hce : ce + (0) ≤ 0) (hsl : sl + (0) ≤ 0) : sw_G p l e (sw_R 0 0 0 0) s m args below meth c Q 3 A D cT σ ce sl 15 [] [] := by
  unfold b_X7_row_15 at h
  refine g_iconst (pc := 15) (v := 0) K dX7_row_15 (by decide) ?_
  cases h
  exact hT _ _ 16 _ (by omega) (by omega) dX7_row_16
def f_X7_row (p0 : Nat) (q1 : Int32) (q2 : Int32) (σ : sw_S) : Option Int32 :=
  (if q1 < 0 then
  b_X7_row_15  σ
  else
  (sw_gR 7 p0 3 σ).bind fun r2 =>
  r2.bind fun a4 =>
  (sw_gI 5 a4 2 σ).bind fun x5 =>
  (if q1 < x5 then
  (if q2 = 0 then
  (sw_gR 7 p0 3 σ).bind fun r9 =>
  r9.bind fun a11 =>
  (sw_gR 5 a11 0 σ).bind fun r12 =>
  r12.bind fun a14 =>
  (sw_al 0 a14 q1 σ).bind fun x16 =>
  some x16
  else
  (if q2 = 1 then
  (sw_gR 7 p0 3 σ).bind fun r17 =>
  r17.bind fun a19 =>
  (sw_gR 5 a19 1 σ).bind fun r20 =>
  r20.bind fun a22 =>
  (sw_al 0 a22 q1 σ).bind fun x24 =>
  some x24
  else
  some 0))
  else
  b_X7_row_15  σ))
set_option maxHeartbeats 4000000 in
set_option maxRecDepth 100000 in
theorem c_X7_row  (l : Launch) (D : va_G) (cT : Nat → ClassId) (p0 : Nat) (q1 : Int32) (q2 : Int32) (σ : sw_S) {r : Int32} (h : f_X7_row p0 q1 q2 σ = some r) : sw_M l D cT yX7_row cX7_row 3 (some .int) 0 0 0 0 σ [P_ (some p0), I_ q1, I_ q2] (some (I_ r)) σ := by
  refine sw_met_i (by decide) (Nat.le_of_ble_eq_true rfl) (fun p e s m args below meth c A Q K hnm hT => ?_)
  have hce : 0 + 0 ≤ 0 := Nat.le_of_ble_eq_true rfl
  have hsl : 0 + 0 ≤ 0 := Nat.le_of_ble_eq_true rfl
  unfold f_X7_row at h
  change sw_G p l e (sw_R 0 0 0 0) s m args below meth c Q 3 A D cT σ 0 0 0 [(0, P_ (some p0)), (1, I_ q1), (2, I_ q2)] []
  refine g_iload_n (pc := 0) K 1 rfl rfl dX7_row_0 ?_
  refine g_if_lt (pc := 1) K 15 dX7_row_1 (by decide) (fun c1 => ?_) (fun c1 => ?_)
  · replace h := (if_pos c1).symm.trans h
    refine g_sub K [] rfl ?_
    exact w_X7_row_15 K hT   _ _ h (by omega) (by omega)
  · replace h := (if_neg c1).symm.trans h
    refine g_iload_n (pc := 4) K 1 rfl rfl dX7_row_4 ?_
    refine g_aload_n (pc := 5) K 0 rfl rfl dX7_row_5 ?_
    replace h := Option.bind_eq_some_iff.mp h
    obtain ⟨r2, e3, h⟩ := h
    refine g_getR (pc := 6) K cl_7 hin_X7 (k := 3) (by decide) tb_190 rfl e3 dX7_row_6 ?_
    replace h := Option.bind_eq_some_iff.mp h
    obtain ⟨a4, rfl, h⟩ := h
    replace h := Option.bind_eq_some_iff.mp h
    obtain ⟨x5, e6, h⟩ := h
    refine g_getI (pc := 9) K cl_5 hin_X5 (k := 2) (by decide) tb_179 rfl e6 dX7_row_9 ?_
    refine g_icmp_lt (pc := 12) K 17 dX7_row_12 (by decide) (fun c7 => ?_) (fun c7 => ?_)
    · replace h := (if_pos c7).symm.trans h
      refine g_iload_n (pc := 17) K 2 rfl rfl dX7_row_17 ?_
      by_cases c80 : q2 = 0
      · replace h := (if_pos c80).symm.trans h
        refine g_lookup (pc := 18) (off := 26) K 44 dX7_row_18 rfl (by rw [c80] <;> rfl) (by decide) ?_
        refine g_aload_n (pc := 44) K 0 rfl rfl dX7_row_44 ?_
        replace h := Option.bind_eq_some_iff.mp h
        obtain ⟨r9, e10, h⟩ := h
        refine g_getR (pc := 45) K cl_7 hin_X7 (k := 3) (by decide) tb_190 rfl e10 dX7_row_45 ?_
        replace h := Option.bind_eq_some_iff.mp h
        obtain ⟨a11, rfl, h⟩ := h
        replace h := Option.bind_eq_some_iff.mp h
        obtain ⟨r12, e13, h⟩ := h
        refine g_getR (pc := 48) K cl_5 hin_X5 (k := 0) (by decide) tb_174 rfl e13 dX7_row_48 ?_
        refine g_iload_n (pc := 51) K 1 rfl rfl dX7_row_51 ?_
        replace h := Option.bind_eq_some_iff.mp h
        obtain ⟨a14, rfl, h⟩ := h
        replace h := Option.bind_eq_some_iff.mp h
        obtain ⟨x16, e15, h⟩ := h
        refine g_iald (pc := 52) K e15 dX7_row_52 ?_
        cases h
        exact hT _ _ 53 _ (by omega) (by omega) dX7_row_53
      replace h := (if_neg c80).symm.trans h
      by_cases c81 : q2 = 1
      · replace h := (if_pos c81).symm.trans h
        refine g_lookup (pc := 18) (off := 36) K 54 dX7_row_18 rfl (by rw [c81] <;> rfl) (by decide) ?_
        refine g_aload_n (pc := 54) K 0 rfl rfl dX7_row_54 ?_
        replace h := Option.bind_eq_some_iff.mp h
        obtain ⟨r17, e18, h⟩ := h
        refine g_getR (pc := 55) K cl_7 hin_X7 (k := 3) (by decide) tb_190 rfl e18 dX7_row_55 ?_
        replace h := Option.bind_eq_some_iff.mp h
        obtain ⟨a19, rfl, h⟩ := h
        replace h := Option.bind_eq_some_iff.mp h
        obtain ⟨r20, e21, h⟩ := h
        refine g_getR (pc := 58) K cl_5 hin_X5 (k := 1) (by decide) tb_176 rfl e21 dX7_row_58 ?_
        refine g_iload_n (pc := 61) K 1 rfl rfl dX7_row_61 ?_
        replace h := Option.bind_eq_some_iff.mp h
        obtain ⟨a22, rfl, h⟩ := h
        replace h := Option.bind_eq_some_iff.mp h
        obtain ⟨x24, e23, h⟩ := h
        refine g_iald (pc := 62) K e23 dX7_row_62 ?_
        cases h
        exact hT _ _ 63 _ (by omega) (by omega) dX7_row_63
      replace h := (if_neg c81).symm.trans h
      refine g_lookup (pc := 18) (off := 46) K 64 dX7_row_18 rfl (by rw [lv_osw c80 (by decide), lv_osw c81 (by decide)] <;> rfl) (by decide) ?_
      refine g_iconst (pc := 64) (v := 0) K dX7_row_64 (by decide) ?_
      cases h
      exact hT _ _ 65 _ (by omega) (by omega) dX7_row_65
    · replace h := (if_neg c7).symm.trans h
      refine g_sub K [] rfl ?_
      exact w_X7_row_15 K hT   _ _ h (by omega) (by omega)

def f_X7_digest (p0 : Nat) (q1 : Int32) (q2 : Int32) (q3 : Int32) (q4 : Int32) (σ : sw_S) : Option Int32 :=
  (f_X7_mix q1 q2 σ).bind fun x2 =>
  (f_X7_mix x2 q3 σ).bind fun x4 =>
  (f_X7_mix x4 q4 σ).bind fun x6 =>
  some x6
set_option maxHeartbeats 4000000 in
set_option maxRecDepth 100000 in
theorem c_X7_digest  (l : Launch) (D : va_G) (cT : Nat → ClassId) (p0 : Nat) (q1 : Int32) (q2 : Int32) (q3 : Int32) (q4 : Int32) (σ : sw_S) {r : Int32} (h : f_X7_digest p0 q1 q2 q3 q4 σ = some r) : sw_M l D cT yX7_digest cX7_digest 5 (some .int) 1 22 0 0 σ [P_ (some p0), I_ q1, I_ q2, I_ q3, I_ q4] (some (I_ r)) σ := by
  refine sw_met_i (by decide) (Nat.le_of_ble_eq_true rfl) (fun p e s m args below meth c A Q K hnm hT => ?_)
  have hce : 0 + 0 ≤ 0 := Nat.le_of_ble_eq_true rfl
  have hsl : 0 + 0 ≤ 0 := Nat.le_of_ble_eq_true rfl
  unfold f_X7_digest at h
  change sw_G p l e (sw_R 1 0 0 22) s m args below meth c Q 5 A D cT σ 0 0 0 [(0, P_ (some p0)), (1, I_ q1), (2, I_ q2), (3, I_ q3), (4, I_ q4)] []
  refine g_iload_n (pc := 0) K 1 rfl rfl dX7_digest_0 ?_
  refine g_iload_n (pc := 1) K 2 rfl rfl dX7_digest_1 ?_
  replace h := Option.bind_eq_some_iff.mp h
  obtain ⟨x2, e1, h⟩ := h
  refine g_callS (pc := 2) (st := []) K [I_ q1, I_ q2] (c_X7_mix _ _ _ _ _ _ e1) tb_80 tb_496 tb_1 tb_79 hd_X7_mix ⟨Nat.le_of_ble_eq_true rfl, Nat.le_of_ble_eq_true rfl⟩ rfl (sw_rm (Nat.le_of_ble_eq_true rfl)) ⟨by show _ ≤ 0; omega, by show _ ≤ 0; omega⟩ dX7_digest_2 ?_
  refine g_iload_n (pc := 5) K 3 rfl rfl dX7_digest_5 ?_
  replace h := Option.bind_eq_some_iff.mp h
  obtain ⟨x4, e3, h⟩ := h
  refine g_callS (pc := 6) (st := []) K [I_ x2, I_ q3] (c_X7_mix _ _ _ _ _ _ e3) tb_80 tb_496 tb_1 tb_79 hd_X7_mix ⟨Nat.le_of_ble_eq_true rfl, Nat.le_of_ble_eq_true rfl⟩ rfl (sw_rm (Nat.le_of_ble_eq_true rfl)) ⟨by show _ ≤ 0; omega, by show _ ≤ 0; omega⟩ dX7_digest_6 ?_
  refine g_iload (pc := 9) K 4 rfl dX7_digest_9 ?_
  replace h := Option.bind_eq_some_iff.mp h
  obtain ⟨x6, e5, h⟩ := h
  refine g_callS (pc := 11) (st := []) K [I_ x4, I_ q4] (c_X7_mix _ _ _ _ _ _ e5) tb_80 tb_496 tb_1 tb_79 hd_X7_mix ⟨Nat.le_of_ble_eq_true rfl, Nat.le_of_ble_eq_true rfl⟩ rfl (sw_rm (Nat.le_of_ble_eq_true rfl)) ⟨by show _ ≤ 0; omega, by show _ ≤ 0; omega⟩ dX7_digest_11 ?_
  cases h
  exact hT _ _ 14 _ (by omega) (by omega) dX7_digest_14
