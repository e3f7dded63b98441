def f_X0_init (p0 : Nat) (q1 : Int32) (q2 : Nat) (σ : sw_S) : Option sw_S :=
  (sw_pt 0 p0 0 (.int q1) σ).bind fun σ1 =>
  (sw_pt 0 p0 1 (va_rf (some q2)) σ1).bind fun σ3 =>
  (sw_nl 120 120).bind fun n5 =>
  (some (sw_nw σ3 (sw_rI n5))).bind fun σ7 =>
  (sw_pt 0 p0 2 (va_rf (some σ3.1)) σ7).bind fun σ9 =>
  (sw_nl 120 120).bind fun n11 =>
  (some (sw_nw σ9 (sw_rI n11))).bind fun σ13 =>
  (sw_pt 0 p0 3 (va_rf (some σ9.1)) σ13).bind fun σ15 =>
  (sw_nl 120 120).bind fun n17 =>
  (some (sw_nw σ15 (sw_rZ n17))).bind fun σ19 =>
  (sw_pt 0 p0 4 (va_rf (some σ15.1)) σ19).bind fun σ21 =>
  (sw_nl 120 120).bind fun n23 =>
  (some (sw_nw σ21 (sw_rI n23))).bind fun σ25 =>
  (sw_pt 0 p0 5 (va_rf (some σ21.1)) σ25).bind fun σ27 =>
  (sw_nl 120 120).bind fun n29 =>
  (some (sw_nw σ27 (sw_rI n29))).bind fun σ31 =>
  (sw_pt 0 p0 6 (va_rf (some σ27.1)) σ31).bind fun σ33 =>
  some σ33
set_option maxHeartbeats 4000000 in
set_option maxRecDepth 100000 in
theorem c_X0_init  (l : Launch) (D : va_G) (cT : Nat → ClassId) (p0 : Nat) (q1 : Int32) (q2 : Nat) (σ : sw_S) {σ' : sw_S} (h : f_X0_init p0 q1 q2 σ = some σ') : sw_M l D cT yX0_init cX0_init 3 none 1 20 5 600 σ [P_ (some p0), I_ q1, P_ (some q2)] none σ' := by
  refine sw_met_v (by decide) (Nat.le_of_ble_eq_true rfl) (fun p e s m args below meth c A Q K hnm hT => ?_)
  have hce : 0 + 5 ≤ 5 := Nat.le_of_ble_eq_true rfl
  have hsl : 0 + 600 ≤ 600 := Nat.le_of_ble_eq_true rfl
  unfold f_X0_init at h
  change sw_G p l e (sw_R 1 5 600 20) s m args below meth c Q 3 A D cT σ 0 0 0 [(0, P_ (some p0)), (1, I_ q1), (2, P_ (some q2))] []
  refine g_aload_n (pc := 0) K 0 rfl rfl dX0_init_0 ?_
  refine g_objInit (pc := 1) K tb_125 tb_16 tb_17 ⟨Nat.le_of_ble_eq_true rfl, Nat.le_of_ble_eq_true rfl⟩ (sw_rm (Nat.le_of_ble_eq_true rfl)) dX0_init_1 ?_
  refine g_aload_n (pc := 4) K 0 rfl rfl dX0_init_4 ?_
  refine g_iload_n (pc := 5) K 1 rfl rfl dX0_init_5 ?_
  replace h := Option.bind_eq_some_iff.mp h
  obtain ⟨σ1, e2, h⟩ := h
  refine g_put (pc := 6) K cl_0 hin_X0 (k := 0) (by decide) tb_126 rfl tyX0 tyX0_ok nmX0 (Or.inr ⟨rfl, hnm, rfl⟩) rfl rfl e2 dX0_init_6 ?_
  refine g_aload_n (pc := 9) K 0 rfl rfl dX0_init_9 ?_
  refine g_aload_n (pc := 10) K 2 rfl rfl dX0_init_10 ?_
  replace h := Option.bind_eq_some_iff.mp h
  obtain ⟨σ3, e4, h⟩ := h
  refine g_put (pc := 11) K cl_0 hin_X0 (k := 1) (by decide) tb_127 rfl tyX0 tyX0_ok nmX0 (Or.inr ⟨rfl, hnm, rfl⟩) (sw_nr (tyX0 1) rfl _) (sw_fr (tyX0 1) rfl _) e4 dX0_init_11 ?_
  refine g_aload_n (pc := 14) K 0 rfl rfl dX0_init_14 ?_
  refine g_bipush (pc := 15) (v := 120) K dX0_init_15 (by decide) ?_
  replace h := Option.bind_eq_some_iff.mp h
  obtain ⟨n5, e6, h⟩ := h
  replace h := Option.bind_eq_some_iff.mp h
  obtain ⟨σ7, e8, h⟩ := h
  replace e8 := Option.some.inj e8
  refine g_new_int (pc := 17) K tb_73 e6 (Nat.le_of_ble_eq_true rfl) (by show _ ≤ 5; omega) (by show _ ≤ 600; omega) dX0_init_17 ?_
  rw [e8]
  replace h := Option.bind_eq_some_iff.mp h
  obtain ⟨σ9, e10, h⟩ := h
  refine g_put (pc := 19) K cl_0 hin_X0 (k := 2) (by decide) tb_128 rfl tyX0 tyX0_ok nmX0 (Or.inr ⟨rfl, hnm, rfl⟩) (sw_nr (tyX0 2) rfl _) (sw_fr (tyX0 2) rfl _) e10 dX0_init_19 ?_
  refine g_aload_n (pc := 22) K 0 rfl rfl dX0_init_22 ?_
  refine g_bipush (pc := 23) (v := 120) K dX0_init_23 (by decide) ?_
  replace h := Option.bind_eq_some_iff.mp h
  obtain ⟨n11, e12, h⟩ := h
  replace h := Option.bind_eq_some_iff.mp h
  obtain ⟨σ13, e14, h⟩ := h
  replace e14 := Option.some.inj e14
  refine g_new_int (pc := 25) K tb_73 e12 (Nat.le_of_ble_eq_true rfl) (by show _ ≤ 5; omega) (by show _ ≤ 600; omega) dX0_init_25 ?_
  rw [e14]
  replace h := Option.bind_eq_some_iff.mp h
  obtain ⟨σ15, e16, h⟩ := h
  refine g_put (pc := 27) K cl_0 hin_X0 (k := 3) (by decide) tb_129 rfl tyX0 tyX0_ok nmX0 (Or.inr ⟨rfl, hnm, rfl⟩) (sw_nr (tyX0 3) rfl _) (sw_fr (tyX0 3) rfl _) e16 dX0_init_27 ?_
  refine g_aload_n (pc := 30) K 0 rfl rfl dX0_init_30 ?_
  refine g_bipush (pc := 31) (v := 120) K dX0_init_31 (by decide) ?_
  replace h := Option.bind_eq_some_iff.mp h
  obtain ⟨n17, e18, h⟩ := h
  replace h := Option.bind_eq_some_iff.mp h
  obtain ⟨σ19, e20, h⟩ := h
  replace e20 := Option.some.inj e20
  refine g_new_boolean (pc := 33) K tb_166 e18 (Nat.le_of_ble_eq_true rfl) (by show _ ≤ 5; omega) (by show _ ≤ 600; omega) dX0_init_33 ?_
  rw [e20]
  replace h := Option.bind_eq_some_iff.mp h
  obtain ⟨σ21, e22, h⟩ := h
  refine g_put (pc := 35) K cl_0 hin_X0 (k := 4) (by decide) tb_130 rfl tyX0 tyX0_ok nmX0 (Or.inr ⟨rfl, hnm, rfl⟩) (sw_nr (tyX0 4) rfl _) (sw_fr (tyX0 4) rfl _) e22 dX0_init_35 ?_
  refine g_aload_n (pc := 38) K 0 rfl rfl dX0_init_38 ?_
  refine g_bipush (pc := 39) (v := 120) K dX0_init_39 (by decide) ?_
  replace h := Option.bind_eq_some_iff.mp h
  obtain ⟨n23, e24, h⟩ := h
  replace h := Option.bind_eq_some_iff.mp h
  obtain ⟨σ25, e26, h⟩ := h
  replace e26 := Option.some.inj e26
  refine g_new_int (pc := 41) K tb_73 e24 (Nat.le_of_ble_eq_true rfl) (by show _ ≤ 5; omega) (by show _ ≤ 600; omega) dX0_init_41 ?_
  rw [e26]
  replace h := Option.bind_eq_some_iff.mp h
  obtain ⟨σ27, e28, h⟩ := h
  refine g_put (pc := 43) K cl_0 hin_X0 (k := 5) (by decide) tb_131 rfl tyX0 tyX0_ok nmX0 (Or.inr ⟨rfl, hnm, rfl⟩) (sw_nr (tyX0 5) rfl _) (sw_fr (tyX0 5) rfl _) e28 dX0_init_43 ?_
  refine g_aload_n (pc := 46) K 0 rfl rfl dX0_init_46 ?_
  refine g_bipush (pc := 47) (v := 120) K dX0_init_47 (by decide) ?_
  replace h := Option.bind_eq_some_iff.mp h
  obtain ⟨n29, e30, h⟩ := h
  replace h := Option.bind_eq_some_iff.mp h
  obtain ⟨σ31, e32, h⟩ := h
  replace e32 := Option.some.inj e32
  refine g_new_int (pc := 49) K tb_73 e30 (Nat.le_of_ble_eq_true rfl) (by show _ ≤ 5; omega) (by show _ ≤ 600; omega) dX0_init_49 ?_
  rw [e32]
  replace h := Option.bind_eq_some_iff.mp h
  obtain ⟨σ33, e34, h⟩ := h
  refine g_put (pc := 51) K cl_0 hin_X0 (k := 6) (by decide) tb_132 rfl tyX0 tyX0_ok nmX0 (Or.inr ⟨rfl, hnm, rfl⟩) (sw_nr (tyX0 6) rfl _) (sw_fr (tyX0 6) rfl _) e34 dX0_init_51 ?_
  cases h
  exact hT _ _ 54 _ (by omega) (by omega) dX0_init_54

def b_X0_hasMore_21 (t0 : Int32) (σ : sw_S) : Option Int32 :=
  (sw_z t0).bind fun z1 =>
  some z1
set_option maxHeartbeats 4000000 in
set_option maxRecDepth 100000 in
theorem w_X0_hasMore_21 {p : Program} {l : Launch} {e : Env} {s : State} {m : MethodId} {args : Array Value} {below : List Frame} {meth : Method} {c : Code} {Q : State → Prop} {A : Nat → Prop} {D : va_G} {cT : Nat → ClassId} {σ : sw_S}  {r : Int32}  (K : sw_C p s m args c cX0_hasMore 2 RX0 A D cT) (hT : sw_Tz cX0_hasMore p l e (sw_R 0 0 0 0) s m args below meth c Q 2 A D cT 0 0 σ r) (t0 : Int32) (ce sl : Nat) (h : b_X0_hasMore_21 t0 σ = some r) (hce : ce + (0) ≤ 0) (hsl : sl + (0) ≤ 0) : sw_G p l e (sw_R 0 0 0 0) s m args below meth c Q 2 A D cT σ ce sl 21 [] [I_ t0] := by
  unfold b_X0_hasMore_21 at h
  replace h := Option.bind_eq_some_iff.mp h
  obtain ⟨z1, e2, h⟩ := h
  obtain ⟨rfl, e3⟩ := sw_z_eq e2
  cases h
  exact hT _ _ 21 _ (by omega) (by omega) e3.1 dX0_hasMore_21
def f_X0_hasMore (p0 : Nat) (q1 : Int32) (σ : sw_S) : Option Int32 :=
  (sw_gR 0 p0 1 σ).bind fun r1 =>
  r1.bind fun a3 =>
  (sw_gI 2 a3 1 σ).bind fun x4 =>
  (sw_gI 0 p0 7 σ).bind fun x6 =>
  (if ((x4 - x6)) < q1 then
  b_X0_hasMore_21 0 σ
  else
  b_X0_hasMore_21 1 σ)
set_option maxHeartbeats 4000000 in
set_option maxRecDepth 100000 in
theorem c_X0_hasMore  (l : Launch) (D : va_G) (cT : Nat → ClassId) (p0 : Nat) (q1 : Int32) (σ : sw_S) {r : Int32} (h : f_X0_hasMore p0 q1 σ = some r) : sw_M l D cT yX0_hasMore cX0_hasMore 2 (some .boolean) 0 0 0 0 σ [P_ (some p0), I_ q1] (some (I_ r)) σ := by
  refine sw_met_z (by decide) (Nat.le_of_ble_eq_true rfl) (fun p e s m args below meth c A Q K hnm hT => ?_)
  have hce : 0 + 0 ≤ 0 := Nat.le_of_ble_eq_true rfl
  have hsl : 0 + 0 ≤ 0 := Nat.le_of_ble_eq_true rfl
  unfold f_X0_hasMore at h
  change sw_G p l e (sw_R 0 0 0 0) s m args below meth c Q 2 A D cT σ 0 0 0 [(0, P_ (some p0)), (1, I_ q1)] []
  refine g_aload_n (pc := 0) K 0 rfl rfl dX0_hasMore_0 ?_
  replace h := Option.bind_eq_some_iff.mp h
  obtain ⟨r1, e2, h⟩ := h
  refine g_getR (pc := 1) K cl_0 hin_X0 (k := 1) (by decide) tb_127 rfl e2 dX0_hasMore_1 ?_
  replace h := Option.bind_eq_some_iff.mp h
  obtain ⟨a3, rfl, h⟩ := h
  replace h := Option.bind_eq_some_iff.mp h
  obtain ⟨x4, e5, h⟩ := h
  refine g_getI (pc := 4) K cl_2 hin_X2 (k := 1) (by decide) tb_113 rfl e5 dX0_hasMore_4 ?_
  refine g_aload_n (pc := 7) K 0 rfl rfl dX0_hasMore_7 ?_
  replace h := Option.bind_eq_some_iff.mp h
  obtain ⟨x6, e7, h⟩ := h
  refine g_getI (pc := 8) K cl_0 hin_X0 (k := 7) (by decide) tb_133 rfl e7 dX0_hasMore_8 ?_
  refine g_isub (pc := 11) K dX0_hasMore_11 ?_
  refine g_iload_n (pc := 12) K 1 rfl rfl dX0_hasMore_12 ?_
  refine g_icmp_lt (pc := 13) K 20 dX0_hasMore_13 (by decide) (fun c8 => ?_) (fun c8 => ?_)
  · replace h := (if_pos c8).symm.trans h
    refine g_iconst (pc := 20) (v := 0) K dX0_hasMore_20 (by decide) ?_
    refine g_sub K [] rfl ?_
    exact w_X0_hasMore_21 K hT  _ _ _ h (by omega) (by omega)
  · replace h := (if_neg c8).symm.trans h
    refine g_iconst (pc := 16) (v := 1) K dX0_hasMore_16 (by decide) ?_
    refine g_goto (pc := 17) (tgt := 21) K dX0_hasMore_17 (by decide) ?_
    refine g_sub K [] rfl ?_
    exact w_X0_hasMore_21 K hT  _ _ _ h (by omega) (by omega)
