def f_X2_init (p0 : Nat) (σ : sw_S) : Option sw_S :=
  (sw_nl 240 240).bind fun n1 =>
  (some (sw_nw σ (sw_rI n1))).bind fun σ3 =>
  (sw_pt 2 p0 0 (va_rf (some σ.1)) σ3).bind fun σ5 =>
  some σ5
set_option maxHeartbeats 4000000 in
set_option maxRecDepth 100000 in
theorem c_X2_init  (l : Launch) (D : va_G) (cT : Nat → ClassId) (p0 : Nat) (σ : sw_S) {σ' : sw_S} (h : f_X2_init p0 σ = some σ') : sw_M l D cT yX2_init cX2_init 1 none 1 20 1 240 σ [P_ (some p0)] none σ' := by
  refine sw_met_v (by decide) (Nat.le_of_ble_eq_true rfl) (fun p e s m args below meth c A Q K hnm hT => ?_)
  have hce : 0 + 1 ≤ 1 := Nat.le_of_ble_eq_true rfl
  have hsl : 0 + 240 ≤ 240 := Nat.le_of_ble_eq_true rfl
  unfold f_X2_init at h
  change sw_G p l e (sw_R 1 1 240 20) s m args below meth c Q 1 A D cT σ 0 0 0 [(0, P_ (some p0))] []
  refine g_aload_n (pc := 0) K 0 rfl rfl dX2_init_0 ?_
  refine g_objInit (pc := 1) K tb_108 tb_16 tb_17 ⟨Nat.le_of_ble_eq_true rfl, Nat.le_of_ble_eq_true rfl⟩ (sw_rm (Nat.le_of_ble_eq_true rfl)) dX2_init_1 ?_
  refine g_aload_n (pc := 4) K 0 rfl rfl dX2_init_4 ?_
  refine g_sipush (pc := 5) (v := 240) K dX2_init_5 (by decide) ?_
  replace h := Option.bind_eq_some_iff.mp h
  obtain ⟨n1, e2, h⟩ := h
  replace h := Option.bind_eq_some_iff.mp h
  obtain ⟨σ3, e4, h⟩ := h
  replace e4 := Option.some.inj e4
  refine g_new_int (pc := 8) K tb_73 e2 (Nat.le_of_ble_eq_true rfl) (by show _ ≤ 1; omega) (by show _ ≤ 240; omega) dX2_init_8 ?_
  rw [e4]
  replace h := Option.bind_eq_some_iff.mp h
  obtain ⟨σ5, e6, h⟩ := h
  refine g_put (pc := 10) K cl_2 hin_X2 (k := 0) (by decide) tb_109 rfl tyX2 tyX2_ok nmX2 (Or.inr ⟨rfl, hnm, rfl⟩) (sw_nr (tyX2 0) rfl _) (sw_fr (tyX2 0) rfl _) e6 dX2_init_10 ?_
  cases h
  exact hT _ _ 13 _ (by omega) (by omega) dX2_init_13

def b_X2_append_32 (σ : sw_S) : Option sw_S :=
  some σ
set_option maxHeartbeats 4000000 in
set_option maxRecDepth 100000 in
theorem w_X2_append_32 {p : Program} {l : Launch} {e : Env} {s : State} {m : MethodId} {args : Array Value} {below : List Frame} {meth : Method} {c : Code} {Q : State → Prop} {A : Nat → Prop} {D : va_G} {cT : Nat → ClassId} {σ' : sw_S}  (K : sw_C p s m args c cX2_append 2 RX2 A D cT) (hT : sw_Tv cX2_append p l e (sw_R 0 0 0 0) s m args below meth c Q 2 A D cT 0 0 σ') (σ : sw_S)  (ce sl : Nat) (h : b_X2_append_32  σ = some σ') (hce : ce + (0) ≤ 0) (hsl : sl + (0) ≤ 0) : sw_G p l e (sw_R 0 0 0 0) s m args below meth c Q 2 A D cT σ ce sl 32 [] [] := by
  unfold b_X2_append_32 at h
  cases h
  exact hT _ _ 32 _ (by omega) (by omega) dX2_append_32
def f_X2_append (p0 : Nat) (q1 : Int32) (σ : sw_S) : Option sw_S :=
  (sw_gI 2 p0 1 σ).bind fun x1 =>
  (sw_gR 2 p0 0 σ).bind fun r3 =>
  r3.bind fun a5 =>
  (sw_len a5 σ).bind fun x6 =>
  (if x6 ≤ x1 then
  b_X2_append_32 σ
  else
  (sw_gR 2 p0 0 σ).bind fun r9 =>
  (sw_gI 2 p0 1 σ).bind fun x11 =>
  r9.bind fun a13 =>
  (sw_as 0 a13 x11 q1 σ).bind fun σ15 =>
  (sw_gI 2 p0 1 σ15).bind fun x16 =>
  (sw_pt 2 p0 1 (.int ((x16 + 1))) σ15).bind fun σ18 =>
  b_X2_append_32 σ18)
set_option maxHeartbeats 4000000 in
set_option maxRecDepth 100000 in
theorem c_X2_append  (l : Launch) (D : va_G) (cT : Nat → ClassId) (p0 : Nat) (q1 : Int32) (σ : sw_S) {σ' : sw_S} (h : f_X2_append p0 q1 σ = some σ') : sw_M l D cT yX2_append cX2_append 2 none 0 0 0 0 σ [P_ (some p0), I_ q1] none σ' := by
  refine sw_met_v (by decide) (Nat.le_of_ble_eq_true rfl) (fun p e s m args below meth c A Q K hnm hT => ?_)
  have hce : 0 + 0 ≤ 0 := Nat.le_of_ble_eq_true rfl
  have hsl : 0 + 0 ≤ 0 := Nat.le_of_ble_eq_true rfl
  unfold f_X2_append at h
  change sw_G p l e (sw_R 0 0 0 0) s m args below meth c Q 2 A D cT σ 0 0 0 [(0, P_ (some p0)), (1, I_ q1)] []
  refine g_aload_n (pc := 0) K 0 rfl rfl dX2_append_0 ?_
  replace h := Option.bind_eq_some_iff.mp h
  obtain ⟨x1, e2, h⟩ := h
  refine g_getI (pc := 1) K cl_2 hin_X2 (k := 1) (by decide) tb_112 rfl e2 dX2_append_1 ?_
  refine g_aload_n (pc := 4) K 0 rfl rfl dX2_append_4 ?_
  replace h := Option.bind_eq_some_iff.mp h
  obtain ⟨r3, e4, h⟩ := h
  refine g_getR (pc := 5) K cl_2 hin_X2 (k := 0) (by decide) tb_109 rfl e4 dX2_append_5 ?_
  replace h := Option.bind_eq_some_iff.mp h
  obtain ⟨a5, rfl, h⟩ := h
  replace h := Option.bind_eq_some_iff.mp h
  obtain ⟨x6, e7, h⟩ := h
  refine g_alen (pc := 8) K e7 dX2_append_8 ?_
  refine g_icmp_ge (pc := 9) K 32 dX2_append_9 (by decide) (fun c8 => ?_) (fun c8 => ?_)
  · replace h := (if_pos c8).symm.trans h
    refine g_sub K [] rfl ?_
    exact w_X2_append_32 K hT   _ _ _ h (by omega) (by omega)
  · replace h := (if_neg c8).symm.trans h
    refine g_aload_n (pc := 12) K 0 rfl rfl dX2_append_12 ?_
    replace h := Option.bind_eq_some_iff.mp h
    obtain ⟨r9, e10, h⟩ := h
    refine g_getR (pc := 13) K cl_2 hin_X2 (k := 0) (by decide) tb_109 rfl e10 dX2_append_13 ?_
    refine g_aload_n (pc := 16) K 0 rfl rfl dX2_append_16 ?_
    replace h := Option.bind_eq_some_iff.mp h
    obtain ⟨x11, e12, h⟩ := h
    refine g_getI (pc := 17) K cl_2 hin_X2 (k := 1) (by decide) tb_112 rfl e12 dX2_append_17 ?_
    refine g_iload_n (pc := 20) K 1 rfl rfl dX2_append_20 ?_
    replace h := Option.bind_eq_some_iff.mp h
    obtain ⟨a13, rfl, h⟩ := h
    replace h := Option.bind_eq_some_iff.mp h
    obtain ⟨σ15, e14, h⟩ := h
    refine g_iast (pc := 21) K e14 dX2_append_21 ?_
    refine g_aload_n (pc := 22) K 0 rfl rfl dX2_append_22 ?_
    refine g_dup (pc := 23) K rfl dX2_append_23 ?_
    replace h := Option.bind_eq_some_iff.mp h
    obtain ⟨x16, e17, h⟩ := h
    refine g_getI (pc := 24) K cl_2 hin_X2 (k := 1) (by decide) tb_112 rfl e17 dX2_append_24 ?_
    refine g_iconst (pc := 27) (v := 1) K dX2_append_27 (by decide) ?_
    refine g_iadd (pc := 28) K dX2_append_28 ?_
    replace h := Option.bind_eq_some_iff.mp h
    obtain ⟨σ18, e19, h⟩ := h
    refine g_put (pc := 29) K cl_2 hin_X2 (k := 1) (by decide) tb_112 rfl tyX2 tyX2_ok nmX2 (Or.inl rfl) rfl rfl e19 dX2_append_29 ?_
    refine g_sub K [] rfl ?_
    exact w_X2_append_32 K hT   _ _ _ h (by omega) (by omega)
