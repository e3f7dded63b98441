def f_X4_init (p0 : Nat) (q1 : Int32) (q2 : Int32) (q3 : Int32) (σ : sw_S) : Option sw_S :=
  (sw_pt 4 p0 0 (.int q1) σ).bind fun σ1 =>
  (sw_pt 4 p0 1 (.int q2) σ1).bind fun σ3 =>
  (sw_z q3).bind fun z5 =>
  (sw_pt 4 p0 2 (.int z5) σ3).bind fun σ8 =>
  some σ8
set_option maxHeartbeats 4000000 in
set_option maxRecDepth 100000 in
theorem c_X4_init  (l : Launch) (D : va_G) (cT : Nat → ClassId) (p0 : Nat) (q1 : Int32) (q2 : Int32) (q3 : Int32) (σ : sw_S) {σ' : sw_S} (h : f_X4_init p0 q1 q2 q3 σ = some σ') : sw_M l D cT yX4_init cX4_init 4 none 1 20 0 0 σ [P_ (some p0), I_ q1, I_ q2, I_ q3] none σ' := by
  refine sw_met_v (by decide) (Nat.le_of_ble_eq_true rfl) (fun p e s m args below meth c A Q K hnm hT => ?_)
  have hce : 0 + 0 ≤ 0 := Nat.le_of_ble_eq_true rfl
  have hsl : 0 + 0 ≤ 0 := Nat.le_of_ble_eq_true rfl
  unfold f_X4_init at h
  change sw_G p l e (sw_R 1 0 0 20) s m args below meth c Q 4 A D cT σ 0 0 0 [(0, P_ (some p0)), (1, I_ q1), (2, I_ q2), (3, I_ q3)] []
  refine g_aload_n (pc := 0) K 0 rfl rfl dX4_init_0 ?_
  refine g_objInit (pc := 1) K tb_321 tb_16 tb_17 ⟨Nat.le_of_ble_eq_true rfl, Nat.le_of_ble_eq_true rfl⟩ (sw_rm (Nat.le_of_ble_eq_true rfl)) dX4_init_1 ?_
  refine g_aload_n (pc := 4) K 0 rfl rfl dX4_init_4 ?_
  refine g_iload_n (pc := 5) K 1 rfl rfl dX4_init_5 ?_
  replace h := Option.bind_eq_some_iff.mp h
  obtain ⟨σ1, e2, h⟩ := h
  refine g_put (pc := 6) K cl_4 hin_X4 (k := 0) (by decide) tb_322 rfl tyX4 tyX4_ok nmX4 (Or.inr ⟨rfl, hnm, rfl⟩) rfl rfl e2 dX4_init_6 ?_
  refine g_aload_n (pc := 9) K 0 rfl rfl dX4_init_9 ?_
  refine g_iload_n (pc := 10) K 2 rfl rfl dX4_init_10 ?_
  replace h := Option.bind_eq_some_iff.mp h
  obtain ⟨σ3, e4, h⟩ := h
  refine g_put (pc := 11) K cl_4 hin_X4 (k := 1) (by decide) tb_323 rfl tyX4 tyX4_ok nmX4 (Or.inr ⟨rfl, hnm, rfl⟩) rfl rfl e4 dX4_init_11 ?_
  refine g_aload_n (pc := 14) K 0 rfl rfl dX4_init_14 ?_
  refine g_iload_n (pc := 15) K 3 rfl rfl dX4_init_15 ?_
  replace h := Option.bind_eq_some_iff.mp h
  obtain ⟨z5, e6, h⟩ := h
  obtain ⟨rfl, e7⟩ := sw_z_eq e6
  replace h := Option.bind_eq_some_iff.mp h
  obtain ⟨σ8, e9, h⟩ := h
  refine g_put (pc := 16) K cl_4 hin_X4 (k := 2) (by decide) tb_324 rfl tyX4 tyX4_ok nmX4 (Or.inr ⟨rfl, hnm, rfl⟩) e7.1 e7.2 e9 dX4_init_16 ?_
  cases h
  exact hT _ _ 19 _ (by omega) (by omega) dX4_init_19

def f_X5_init (p0 : Nat) (σ : sw_S) : Option sw_S :=
  (sw_nl 120 120).bind fun n1 =>
  (some (sw_nw σ (sw_rI n1))).bind fun σ3 =>
  (sw_pt 5 p0 0 (va_rf (some σ.1)) σ3).bind fun σ5 =>
  (sw_nl 120 120).bind fun n7 =>
  (some (sw_nw σ5 (sw_rI n7))).bind fun σ9 =>
  (sw_pt 5 p0 1 (va_rf (some σ5.1)) σ9).bind fun σ11 =>
  some σ11
set_option maxHeartbeats 4000000 in
set_option maxRecDepth 100000 in
theorem c_X5_init  (l : Launch) (D : va_G) (cT : Nat → ClassId) (p0 : Nat) (σ : sw_S) {σ' : sw_S} (h : f_X5_init p0 σ = some σ') : sw_M l D cT yX5_init cX5_init 1 none 1 20 2 240 σ [P_ (some p0)] none σ' := by
  refine sw_met_v (by decide) (Nat.le_of_ble_eq_true rfl) (fun p e s m args below meth c A Q K hnm hT => ?_)
  have hce : 0 + 2 ≤ 2 := Nat.le_of_ble_eq_true rfl
  have hsl : 0 + 240 ≤ 240 := Nat.le_of_ble_eq_true rfl
  unfold f_X5_init at h
  change sw_G p l e (sw_R 1 2 240 20) s m args below meth c Q 1 A D cT σ 0 0 0 [(0, P_ (some p0))] []
  refine g_aload_n (pc := 0) K 0 rfl rfl dX5_init_0 ?_
  refine g_objInit (pc := 1) K tb_172 tb_16 tb_17 ⟨Nat.le_of_ble_eq_true rfl, Nat.le_of_ble_eq_true rfl⟩ (sw_rm (Nat.le_of_ble_eq_true rfl)) dX5_init_1 ?_
  refine g_aload_n (pc := 4) K 0 rfl rfl dX5_init_4 ?_
  refine g_bipush (pc := 5) (v := 120) K dX5_init_5 (by decide) ?_
  replace h := Option.bind_eq_some_iff.mp h
  obtain ⟨n1, e2, h⟩ := h
  replace h := Option.bind_eq_some_iff.mp h
  obtain ⟨σ3, e4, h⟩ := h
  replace e4 := Option.some.inj e4
  refine g_new_int (pc := 7) K tb_73 e2 (Nat.le_of_ble_eq_true rfl) (by show _ ≤ 2; omega) (by show _ ≤ 240; omega) dX5_init_7 ?_
  rw [e4]
  replace h := Option.bind_eq_some_iff.mp h
  obtain ⟨σ5, e6, h⟩ := h
  refine g_put (pc := 9) K cl_5 hin_X5 (k := 0) (by decide) tb_173 rfl tyX5 tyX5_ok nmX5 (Or.inr ⟨rfl, hnm, rfl⟩) (sw_nr (tyX5 0) rfl _) (sw_fr (tyX5 0) rfl _) e6 dX5_init_9 ?_
  refine g_aload_n (pc := 12) K 0 rfl rfl dX5_init_12 ?_
  refine g_bipush (pc := 13) (v := 120) K dX5_init_13 (by decide) ?_
  replace h := Option.bind_eq_some_iff.mp h
  obtain ⟨n7, e8, h⟩ := h
  replace h := Option.bind_eq_some_iff.mp h
  obtain ⟨σ9, e10, h⟩ := h
  replace e10 := Option.some.inj e10
  refine g_new_int (pc := 15) K tb_73 e8 (Nat.le_of_ble_eq_true rfl) (by show _ ≤ 2; omega) (by show _ ≤ 240; omega) dX5_init_15 ?_
  rw [e10]
  replace h := Option.bind_eq_some_iff.mp h
  obtain ⟨σ11, e12, h⟩ := h
  refine g_put (pc := 17) K cl_5 hin_X5 (k := 1) (by decide) tb_175 rfl tyX5 tyX5_ok nmX5 (Or.inr ⟨rfl, hnm, rfl⟩) (sw_nr (tyX5 1) rfl _) (sw_fr (tyX5 1) rfl _) e12 dX5_init_17 ?_
  cases h
  exact hT _ _ 20 _ (by omega) (by omega) dX5_init_20
