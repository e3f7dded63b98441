def b_X5_append_42 (σ : sw_S) : Option sw_S :=
  some σ
set_option maxHeartbeats 4000000 in
set_option maxRecDepth 100000 in
theorem w_X5_append_42 {p : Program} {l : Launch} {e : Env} {s : State} {m : MethodId} {args : Array Value} {below : List Frame} {meth : Method} {c : Code} {Q : State → Prop} {A : Nat → Prop} {D : va_G} {cT : Nat → ClassId} {σ' : sw_S}  (K : sw_C p s m args c cX5_append 3 RX5 A D cT) (hT : sw_Tv cX5_append p l e (sw_R 0 0 0 0) s m args below meth c Q 3 A D cT 0 0 σ') (σ : sw_S)  (ce sl : Nat) (h : b_X5_append_42  σ = some σ') (hce : ce + (0) ≤ 0) (hsl : sl + (0) ≤ 0) : sw_G p l e (sw_R 0 0 0 0) s m args below meth c Q 3 A D cT σ ce sl 42 [] [] := by
  unfold b_X5_append_42 at h
  cases h
  exact hT _ _ 42 _ (by omega) (by omega) dX5_append_42
def f_X5_append (p0 : Nat) (q1 : Int32) (q2 : Int32) (σ : sw_S) : Option sw_S :=
  (sw_gI 5 p0 2 σ).bind fun x1 =>
  (sw_gR 5 p0 0 σ).bind fun r3 =>
  r3.bind fun a5 =>
  (sw_len a5 σ).bind fun x6 =>
  (if x6 ≤ x1 then
  b_X5_append_42 σ
  else
  (sw_gR 5 p0 0 σ).bind fun r9 =>
  (sw_gI 5 p0 2 σ).bind fun x11 =>
  r9.bind fun a13 =>
  (sw_as 0 a13 x11 q1 σ).bind fun σ15 =>
  (sw_gR 5 p0 1 σ15).bind fun r16 =>
  (sw_gI 5 p0 2 σ15).bind fun x18 =>
  r16.bind fun a20 =>
  (sw_as 0 a20 x18 q2 σ15).bind fun σ22 =>
  (sw_gI 5 p0 2 σ22).bind fun x23 =>
  (sw_pt 5 p0 2 (.int ((x23 + 1))) σ22).bind fun σ25 =>
  b_X5_append_42 σ25)
set_option maxHeartbeats 4000000 in
set_option maxRecDepth 100000 in
theorem c_X5_append  (l : Launch) (D : va_G) (cT : Nat → ClassId) (p0 : Nat) (q1 : Int32) (q2 : Int32) (σ : sw_S) {σ' : sw_S} (h : f_X5_append p0 q1 q2 σ = some σ') : sw_M l D cT yX5_append cX5_append 3 none 0 0 0 0 σ [P_ (some p0), I_ q1, I_ q2] none σ' := by
  refine sw_met_v (by decide) (Nat.le_of_ble_eq_true rfl) (fun p e s m args below meth c A Q K hnm hT => ?_)
  have hce : 0 + 0 ≤ 0 := Nat.le_of_ble_eq_true rfl
  have hsl : 0 + 0 ≤ 0 := Nat.le_of_ble_eq_true rfl
  unfold f_X5_append at h
  change sw_G p l e (sw_R 0 0 0 0) s m args below meth c Q 3 A D cT σ 0 0 0 [(0, P_ (some p0)), (1, I_ q1), (2, I_ q2)] []
  refine g_aload_n (pc := 0) K 0 rfl rfl dX5_append_0 ?_
  replace h := Option.bind_eq_some_iff.mp h
  obtain ⟨x1, e2, h⟩ := h
  refine g_getI (pc := 1) K cl_5 hin_X5 (k := 2) (by decide) tb_177 rfl e2 dX5_append_1 ?_
  refine g_aload_n (pc := 4) K 0 rfl rfl dX5_append_4 ?_
  replace h := Option.bind_eq_some_iff.mp h
  obtain ⟨r3, e4, h⟩ := h
  refine g_getR (pc := 5) K cl_5 hin_X5 (k := 0) (by decide) tb_173 rfl e4 dX5_append_5 ?_
  replace h := Option.bind_eq_some_iff.mp h
  obtain ⟨a5, rfl, h⟩ := h
  replace h := Option.bind_eq_some_iff.mp h
  obtain ⟨x6, e7, h⟩ := h
  refine g_alen (pc := 8) K e7 dX5_append_8 ?_
  refine g_icmp_ge (pc := 9) K 42 dX5_append_9 (by decide) (fun c8 => ?_) (fun c8 => ?_)
  · replace h := (if_pos c8).symm.trans h
    refine g_sub K [] rfl ?_
    exact w_X5_append_42 K hT   _ _ _ h (by omega) (by omega)
  · replace h := (if_neg c8).symm.trans h
    refine g_aload_n (pc := 12) K 0 rfl rfl dX5_append_12 ?_
    replace h := Option.bind_eq_some_iff.mp h
    obtain ⟨r9, e10, h⟩ := h
    refine g_getR (pc := 13) K cl_5 hin_X5 (k := 0) (by decide) tb_173 rfl e10 dX5_append_13 ?_
    refine g_aload_n (pc := 16) K 0 rfl rfl dX5_append_16 ?_
    replace h := Option.bind_eq_some_iff.mp h
    obtain ⟨x11, e12, h⟩ := h
    refine g_getI (pc := 17) K cl_5 hin_X5 (k := 2) (by decide) tb_177 rfl e12 dX5_append_17 ?_
    refine g_iload_n (pc := 20) K 1 rfl rfl dX5_append_20 ?_
    replace h := Option.bind_eq_some_iff.mp h
    obtain ⟨a13, rfl, h⟩ := h
    replace h := Option.bind_eq_some_iff.mp h
    obtain ⟨σ15, e14, h⟩ := h
    refine g_iast (pc := 21) K e14 dX5_append_21 ?_
    refine g_aload_n (pc := 22) K 0 rfl rfl dX5_append_22 ?_
    replace h := Option.bind_eq_some_iff.mp h
    obtain ⟨r16, e17, h⟩ := h
    refine g_getR (pc := 23) K cl_5 hin_X5 (k := 1) (by decide) tb_175 rfl e17 dX5_append_23 ?_
    refine g_aload_n (pc := 26) K 0 rfl rfl dX5_append_26 ?_
    replace h := Option.bind_eq_some_iff.mp h
    obtain ⟨x18, e19, h⟩ := h
    refine g_getI (pc := 27) K cl_5 hin_X5 (k := 2) (by decide) tb_177 rfl e19 dX5_append_27 ?_
    refine g_iload_n (pc := 30) K 2 rfl rfl dX5_append_30 ?_
    replace h := Option.bind_eq_some_iff.mp h
    obtain ⟨a20, rfl, h⟩ := h
    replace h := Option.bind_eq_some_iff.mp h
    obtain ⟨σ22, e21, h⟩ := h
    refine g_iast (pc := 31) K e21 dX5_append_31 ?_
    refine g_aload_n (pc := 32) K 0 rfl rfl dX5_append_32 ?_
    refine g_dup (pc := 33) K rfl dX5_append_33 ?_
    replace h := Option.bind_eq_some_iff.mp h
    obtain ⟨x23, e24, h⟩ := h
    refine g_getI (pc := 34) K cl_5 hin_X5 (k := 2) (by decide) tb_177 rfl e24 dX5_append_34 ?_
    refine g_iconst (pc := 37) (v := 1) K dX5_append_37 (by decide) ?_
    refine g_iadd (pc := 38) K dX5_append_38 ?_
    replace h := Option.bind_eq_some_iff.mp h
    obtain ⟨σ25, e26, h⟩ := h
    refine g_put (pc := 39) K cl_5 hin_X5 (k := 2) (by decide) tb_177 rfl tyX5 tyX5_ok nmX5 (Or.inl rfl) rfl rfl e26 dX5_append_39 ?_
    refine g_sub K [] rfl ?_
    exact w_X5_append_42 K hT   _ _ _ h (by omega) (by omega)
